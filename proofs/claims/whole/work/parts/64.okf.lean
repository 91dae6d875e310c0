-- every row of the tables is what the code says (written by gen/ok.py)
theorem xm_ok141 : xm_mok 141 = true := by decide +kernel
theorem xm_ok142 : xm_mok 142 = true := by decide +kernel
theorem xm_ok143 : xm_mok 143 = true := by decide +kernel
theorem xm_ok144 : xm_mok 144 = true := by decide +kernel
