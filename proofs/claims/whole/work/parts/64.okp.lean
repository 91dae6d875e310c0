-- every row of the tables is what the code says (written by gen/ok.py)
theorem xm_okl9 : (xm_r145j.all fun c => c.all (xm_rok 145)) = true := by decide +kernel
