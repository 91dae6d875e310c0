-- every row of the tables is what the code says (written by gen/ok.py)
def xm_retb (k : Nat) (i : Jvm.ClassFile.Instr) : Bool := match i with
  | .ireturn => decide (xm_rs k = 0 → xm_rt k = some .int) && (decide (xm_rs k = 1 → xm_rt k = some .boolean) && decide (xm_rs k = 2 → xm_rt k = some .char))
  | .lreturn => decide (xm_rt k = some .long)
  | .areturn => match xm_rt k with
    | some (.object _) => true
    | some (.array _) => true
    | _ => false
  | .return_ => decide (xm_rt k = none)
  | _ => true
theorem xm_retb_spec {k : Nat} {i : Jvm.ClassFile.Instr} (h : xm_retb k i = true) : xm_rets k i := by
  cases i
  case ireturn =>
    simp only [xm_retb, Bool.and_eq_true, decide_eq_true_eq] at h
    exact h
  case lreturn => exact (of_decide_eq_true h : xm_rt k = some .long)
  case return_ => exact (of_decide_eq_true h : xm_rt k = none)
  case areturn =>
    simp only [xm_retb] at h
    split at h
    · rename_i n hn
      exact ⟨_, hn, Or.inl ⟨_, rfl⟩⟩
    · rename_i n hn
      exact ⟨_, hn, Or.inr ⟨_, rfl⟩⟩
    · cases h
  all_goals trivial
def xm_cpb (k : Nat) (i : Jvm.ClassFile.Instr) (a : Nat) : Bool := match i with
  | .invokestatic _ => decide (200 ≤ a → 1 ≤ xm_fr k ∧ nativeFrameWords "java/lang/System" "arraycopy" 5 + 11 ≤ xm_lo k)
  | _ => true
def xm_rok (k : Nat) (r : xm_Row) : Bool := decide (decode (xm_code k) r.1 = .ok (r.2.1, r.2.2.1)) && (xm_ck (xm_ml k) r.1 r.2.1 r.2.2.1 r.2.2.2.1 r.2.2.2.2.1 r.2.2.2.2.2.1 r.2.2.2.2.2.2 && (xm_retb k r.2.1 && xm_cpb k r.2.1 r.2.2.2.1))
def xm_mok (k : Nat) : Bool := (xm_rw k).all fun c => c.all (xm_rok k)
theorem xm_ok0 : xm_mok 0 = true := by decide +kernel
theorem xm_ok1 : xm_mok 1 = true := by decide +kernel
theorem xm_ok2 : xm_mok 2 = true := by decide +kernel
theorem xm_ok3 : xm_mok 3 = true := by decide +kernel
theorem xm_ok4 : xm_mok 4 = true := by decide +kernel
theorem xm_ok5 : xm_mok 5 = true := by decide +kernel
theorem xm_ok6 : xm_mok 6 = true := by decide +kernel
theorem xm_ok7 : xm_mok 7 = true := by decide +kernel
theorem xm_ok8 : xm_mok 8 = true := by decide +kernel
theorem xm_ok9 : xm_mok 9 = true := by decide +kernel
theorem xm_ok10 : xm_mok 10 = true := by decide +kernel
theorem xm_ok11 : xm_mok 11 = true := by decide +kernel
theorem xm_ok12 : xm_mok 12 = true := by decide +kernel
theorem xm_ok13 : xm_mok 13 = true := by decide +kernel
theorem xm_ok14 : xm_mok 14 = true := by decide +kernel
theorem xm_ok15 : xm_mok 15 = true := by decide +kernel
theorem xm_ok16 : xm_mok 16 = true := by decide +kernel
theorem xm_ok17 : xm_mok 17 = true := by decide +kernel
theorem xm_ok18 : xm_mok 18 = true := by decide +kernel
theorem xm_ok19 : xm_mok 19 = true := by decide +kernel
theorem xm_ok20 : xm_mok 20 = true := by decide +kernel
theorem xm_ok21 : xm_mok 21 = true := by decide +kernel
theorem xm_ok22 : xm_mok 22 = true := by decide +kernel
theorem xm_ok23 : xm_mok 23 = true := by decide +kernel
theorem xm_ok24 : xm_mok 24 = true := by decide +kernel
theorem xm_ok25 : xm_mok 25 = true := by decide +kernel
theorem xm_ok26 : xm_mok 26 = true := by decide +kernel
theorem xm_ok27 : xm_mok 27 = true := by decide +kernel
theorem xm_ok28 : xm_mok 28 = true := by decide +kernel
theorem xm_ok29 : xm_mok 29 = true := by decide +kernel
theorem xm_ok30 : xm_mok 30 = true := by decide +kernel
theorem xm_ok31 : xm_mok 31 = true := by decide +kernel
theorem xm_ok32 : xm_mok 32 = true := by decide +kernel
