-- every row of the tables is what the code says (written by gen/ok.py)
theorem xm_okl3 : (xm_r145d.all fun c => c.all (xm_rok 145)) = true := by decide +kernel
