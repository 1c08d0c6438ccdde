section LAST_DEV
theorem last_dev : True := trivial
end LAST_DEV
