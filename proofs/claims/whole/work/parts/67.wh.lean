-- links and words of the tables (written by gen/w.py)
theorem xm_lk141 : xm_lok 141 = true := by decide +kernel
theorem xm_lk142 : xm_lok 142 = true := by decide +kernel
theorem xm_lk143 : xm_lok 143 = true := by decide +kernel
theorem xm_lk144 : xm_lok 144 = true := by decide +kernel
theorem xm_lkl0 : (xm_r145a.all fun c => c.all (xm_lkb 145)) = true := by decide +kernel
theorem xm_lkl1 : (xm_r145b.all fun c => c.all (xm_lkb 145)) = true := by decide +kernel
theorem xm_lkl2 : (xm_r145c.all fun c => c.all (xm_lkb 145)) = true := by decide +kernel
theorem xm_lkl3 : (xm_r145d.all fun c => c.all (xm_lkb 145)) = true := by decide +kernel
theorem xm_lkl4 : (xm_r145e.all fun c => c.all (xm_lkb 145)) = true := by decide +kernel
theorem xm_lkl5 : (xm_r145f.all fun c => c.all (xm_lkb 145)) = true := by decide +kernel
theorem xm_lkl6 : (xm_r145g.all fun c => c.all (xm_lkb 145)) = true := by decide +kernel
theorem xm_lkl7 : (xm_r145h.all fun c => c.all (xm_lkb 145)) = true := by decide +kernel
theorem xm_lkl8 : (xm_r145i.all fun c => c.all (xm_lkb 145)) = true := by decide +kernel
theorem xm_lkl9 : (xm_r145j.all fun c => c.all (xm_lkb 145)) = true := by decide +kernel
theorem xm_lk145 : xm_lok 145 = true := by
  show (xm_r145.all fun c => c.all (xm_lkb 145)) = true
  unfold xm_r145
  simp only [List.all_append, xm_lkl0, xm_lkl1, xm_lkl2, xm_lkl3, xm_lkl4, xm_lkl5, xm_lkl6, xm_lkl7, xm_lkl8, xm_lkl9, Bool.and_self]
