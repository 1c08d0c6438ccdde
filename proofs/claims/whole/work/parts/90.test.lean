section TEST
set_option maxRecDepth 1000000 in
set_option maxHeartbeats 4000000 in
theorem cw_X13_init : lw_tbl[1824]? = some (Cond.code yX13_init cX13_init 2 none) := by rfl
theorem yk_X13_init : Cond.instanceMethod yX13_init ∈ lw_ok ∧ Cond.initialized yX13_init.cls ∈ lw_ok ∧ Cond.code yX13_init cX13_init 2 none ∈ lw_ok := ⟨lw_in 1823 (by decide +kernel) rfl, lw_in 143 (by decide +kernel) rfl, lw_in 1824 cw_X13_init rfl⟩
end TEST
