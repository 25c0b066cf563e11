section RNFI3
theorem ra_run : ra_chk = true := by decide +kernel
end RNFI3
