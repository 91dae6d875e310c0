-- the links of all rows hold at every start (written by gen/l.py)
section XL
variable {D : va_G} {cs : Nat → ClassId} {ad : Nat → Nat → Nat} {A : Nat → Prop} {H0 : Heap} {N : Nat} {xs : Nat → Int32} {s : State}
theorem xm_is_use {pos : Nat} {w : Jvm.Cond} (h : xm_is pos w = true) (hG : xG D cs ad A H0 N xs s) : va_Nw w s := by
  simp only [xm_is, Bool.and_eq_true, decide_eq_true_eq] at h
  exact hG.1 w (List.mem_of_getElem? h.1) h.2
theorem xm_cT_spec : ∀ b, b < 19 → xm_nth xm_ak b = 0 → xm_cl[xm_nth xm_cis b]? = some (xm_cT b) ∧ (xm_cT b).2.2 = (xm_nthL xm_ftt b).length
  | 0, _, h => ⟨rfl, rfl⟩
  | 1, _, h => ⟨rfl, rfl⟩
  | 2, _, h => by cases h
  | 3, _, h => ⟨rfl, rfl⟩
  | 4, _, h => by cases h
  | 5, _, h => by cases h
  | 6, _, h => ⟨rfl, rfl⟩
  | 7, _, h => by cases h
  | 8, _, h => ⟨rfl, rfl⟩
  | 9, _, h => by cases h
  | 10, _, h => ⟨rfl, rfl⟩
  | 11, _, h => by cases h
  | 12, _, h => ⟨rfl, rfl⟩
  | 13, _, h => by cases h
  | 14, _, h => by cases h
  | 15, _, h => by cases h
  | 16, _, h => by cases h
  | 17, _, h => by cases h
  | 18, _, h => ⟨rfl, rfl⟩
  | b + 19, h, _ => absurd h (by omega)
theorem xm_ftt_lt {b a : Nat} (h : a < (xm_nthL xm_ftt b).length) : b < 19 := by
  apply Nat.lt_of_not_le
  intro hb
  have : ∀ (l : List (List Nat)) (n : Nat), l.length ≤ n → xm_nthL l n = [] := by
    intro l
    induction l with
    | nil => intro n _; rfl
    | cons x r ih => intro n hn; cases n with
      | zero => simp at hn
      | succ n => exact ih n (by simpa using hn)
  rw [this xm_ftt b hb] at h
  simp at h
theorem xm_fk {own : String} {idx a b pos : Nat} (h : xm_fb own idx a b pos = true) (hG : xG D cs ad A H0 N xs s) (h0 : xm_nth xm_ak b = 0) (ha : a < (xm_nthL xm_ftt b).length) : xfk own xm_cl idx a b s := by
  obtain ⟨h1, h2⟩ := xm_cT_spec b (xm_ftt_lt ha) h0
  refine ⟨(xm_cT b).1, (xm_cT b).2.1, by rw [h1, ← h2], ?_⟩
  simp only [xm_fb, Bool.or_eq_true] at h
  rcases h with h | h
  · exact Or.inl (xm_is_use h hG)
  · exact Or.inr ⟨_, xm_is_use h hG⟩
theorem xm_mf (hG : xG D cs ad A H0 N xs s) : ∀ a, a < 145 → xMf (xm_mn a) (xm_code a) (xm_ml a) (xm_rt a) (xm_et a) s
  | 0, _ => xMf.of (hG.1 _ (List.mem_of_getElem? xm_cw0) rfl)
  | 1, _ => xMf.of (hG.1 _ (List.mem_of_getElem? xm_cw1) rfl)
  | 2, _ => xMf.of (hG.1 _ (List.mem_of_getElem? xm_cw2) rfl)
  | 3, _ => xMf.of (hG.1 _ (List.mem_of_getElem? xm_cw3) rfl)
  | 4, _ => xMf.of (hG.1 _ (List.mem_of_getElem? xm_cw4) rfl)
  | 5, _ => xMf.of (hG.1 _ (List.mem_of_getElem? xm_cw5) rfl)
  | 6, _ => xMf.of (hG.1 _ (List.mem_of_getElem? xm_cw6) rfl)
  | 7, _ => xMf.of (hG.1 _ (List.mem_of_getElem? xm_cw7) rfl)
  | 8, _ => xMf.of (hG.1 _ (List.mem_of_getElem? xm_cw8) rfl)
  | 9, _ => xMf.of (hG.1 _ (List.mem_of_getElem? xm_cw9) rfl)
  | 10, _ => xMf.of (hG.1 _ (List.mem_of_getElem? xm_cw10) rfl)
  | 11, _ => xMf.of (hG.1 _ (List.mem_of_getElem? xm_cw11) rfl)
  | 12, _ => xMf.of (hG.1 _ (List.mem_of_getElem? xm_cw12) rfl)
  | 13, _ => xMf.of (hG.1 _ (List.mem_of_getElem? xm_cw13) rfl)
  | 14, _ => xMf.of (hG.1 _ (List.mem_of_getElem? xm_cw14) rfl)
  | 15, _ => xMf.of (hG.1 _ (List.mem_of_getElem? xm_cw15) rfl)
  | 16, _ => xMf.of (hG.1 _ (List.mem_of_getElem? xm_cw16) rfl)
  | 17, _ => xMf.of (hG.1 _ (List.mem_of_getElem? xm_cw17) rfl)
  | 18, _ => xMf.of (hG.1 _ (List.mem_of_getElem? xm_cw18) rfl)
  | 19, _ => xMf.of (hG.1 _ (List.mem_of_getElem? xm_cw19) rfl)
  | 20, _ => xMf.of (hG.1 _ (List.mem_of_getElem? xm_cw20) rfl)
  | 21, _ => xMf.of (hG.1 _ (List.mem_of_getElem? xm_cw21) rfl)
  | 22, _ => xMf.of (hG.1 _ (List.mem_of_getElem? xm_cw22) rfl)
  | 23, _ => xMf.of (hG.1 _ (List.mem_of_getElem? xm_cw23) rfl)
  | 24, _ => xMf.of (hG.1 _ (List.mem_of_getElem? xm_cw24) rfl)
  | 25, _ => xMf.of (hG.1 _ (List.mem_of_getElem? xm_cw25) rfl)
  | 26, _ => xMf.of (hG.1 _ (List.mem_of_getElem? xm_cw26) rfl)
  | 27, _ => xMf.of (hG.1 _ (List.mem_of_getElem? xm_cw27) rfl)
  | 28, _ => xMf.of (hG.1 _ (List.mem_of_getElem? xm_cw28) rfl)
  | 29, _ => xMf.of (hG.1 _ (List.mem_of_getElem? xm_cw29) rfl)
  | 30, _ => xMf.of (hG.1 _ (List.mem_of_getElem? xm_cw30) rfl)
  | 31, _ => xMf.of (hG.1 _ (List.mem_of_getElem? xm_cw31) rfl)
  | 32, _ => xMf.of (hG.1 _ (List.mem_of_getElem? xm_cw32) rfl)
  | 33, _ => xMf.of (hG.1 _ (List.mem_of_getElem? xm_cw33) rfl)
  | 34, _ => xMf.of (hG.1 _ (List.mem_of_getElem? xm_cw34) rfl)
  | 35, _ => xMf.of (hG.1 _ (List.mem_of_getElem? xm_cw35) rfl)
  | 36, _ => xMf.of (hG.1 _ (List.mem_of_getElem? xm_cw36) rfl)
  | 37, _ => xMf.of (hG.1 _ (List.mem_of_getElem? xm_cw37) rfl)
  | 38, _ => xMf.of (hG.1 _ (List.mem_of_getElem? xm_cw38) rfl)
  | 39, _ => xMf.of (hG.1 _ (List.mem_of_getElem? xm_cw39) rfl)
  | 40, _ => xMf.of (hG.1 _ (List.mem_of_getElem? xm_cw40) rfl)
  | 41, _ => xMf.of (hG.1 _ (List.mem_of_getElem? xm_cw41) rfl)
  | 42, _ => xMf.of (hG.1 _ (List.mem_of_getElem? xm_cw42) rfl)
  | 43, _ => xMf.of (hG.1 _ (List.mem_of_getElem? xm_cw43) rfl)
  | 44, _ => xMf.of (hG.1 _ (List.mem_of_getElem? xm_cw44) rfl)
  | 45, _ => xMf.of (hG.1 _ (List.mem_of_getElem? xm_cw45) rfl)
  | 46, _ => xMf.of (hG.1 _ (List.mem_of_getElem? xm_cw46) rfl)
  | 47, _ => xMf.of (hG.1 _ (List.mem_of_getElem? xm_cw47) rfl)
  | 48, _ => xMf.of (hG.1 _ (List.mem_of_getElem? xm_cw48) rfl)
  | 49, _ => xMf.with (hG.1 _ (List.mem_of_getElem? xm_cw49) rfl)
  | 50, _ => xMf.of (hG.1 _ (List.mem_of_getElem? xm_cw50) rfl)
  | 51, _ => xMf.of (hG.1 _ (List.mem_of_getElem? xm_cw51) rfl)
  | 52, _ => xMf.of (hG.1 _ (List.mem_of_getElem? xm_cw52) rfl)
  | 53, _ => xMf.of (hG.1 _ (List.mem_of_getElem? xm_cw53) rfl)
  | 54, _ => xMf.of (hG.1 _ (List.mem_of_getElem? xm_cw54) rfl)
  | 55, _ => xMf.of (hG.1 _ (List.mem_of_getElem? xm_cw55) rfl)
  | 56, _ => xMf.of (hG.1 _ (List.mem_of_getElem? xm_cw56) rfl)
  | 57, _ => xMf.of (hG.1 _ (List.mem_of_getElem? xm_cw57) rfl)
  | 58, _ => xMf.of (hG.1 _ (List.mem_of_getElem? xm_cw58) rfl)
  | 59, _ => xMf.of (hG.1 _ (List.mem_of_getElem? xm_cw59) rfl)
  | 60, _ => xMf.of (hG.1 _ (List.mem_of_getElem? xm_cw60) rfl)
  | 61, _ => xMf.of (hG.1 _ (List.mem_of_getElem? xm_cw61) rfl)
  | 62, _ => xMf.of (hG.1 _ (List.mem_of_getElem? xm_cw62) rfl)
  | 63, _ => xMf.of (hG.1 _ (List.mem_of_getElem? xm_cw63) rfl)
  | 64, _ => xMf.of (hG.1 _ (List.mem_of_getElem? xm_cw64) rfl)
  | 65, _ => xMf.of (hG.1 _ (List.mem_of_getElem? xm_cw65) rfl)
  | 66, _ => xMf.of (hG.1 _ (List.mem_of_getElem? xm_cw66) rfl)
  | 67, _ => xMf.of (hG.1 _ (List.mem_of_getElem? xm_cw67) rfl)
  | 68, _ => xMf.of (hG.1 _ (List.mem_of_getElem? xm_cw68) rfl)
  | 69, _ => xMf.of (hG.1 _ (List.mem_of_getElem? xm_cw69) rfl)
  | 70, _ => xMf.of (hG.1 _ (List.mem_of_getElem? xm_cw70) rfl)
  | 71, _ => xMf.of (hG.1 _ (List.mem_of_getElem? xm_cw71) rfl)
  | 72, _ => xMf.of (hG.1 _ (List.mem_of_getElem? xm_cw72) rfl)
  | 73, _ => xMf.of (hG.1 _ (List.mem_of_getElem? xm_cw73) rfl)
  | 74, _ => xMf.of (hG.1 _ (List.mem_of_getElem? xm_cw74) rfl)
  | 75, _ => xMf.of (hG.1 _ (List.mem_of_getElem? xm_cw75) rfl)
  | 76, _ => xMf.of (hG.1 _ (List.mem_of_getElem? xm_cw76) rfl)
  | 77, _ => xMf.of (hG.1 _ (List.mem_of_getElem? xm_cw77) rfl)
  | 78, _ => xMf.of (hG.1 _ (List.mem_of_getElem? xm_cw78) rfl)
  | 79, _ => xMf.of (hG.1 _ (List.mem_of_getElem? xm_cw79) rfl)
  | 80, _ => xMf.of (hG.1 _ (List.mem_of_getElem? xm_cw80) rfl)
  | 81, _ => xMf.of (hG.1 _ (List.mem_of_getElem? xm_cw81) rfl)
  | 82, _ => xMf.of (hG.1 _ (List.mem_of_getElem? xm_cw82) rfl)
  | 83, _ => xMf.of (hG.1 _ (List.mem_of_getElem? xm_cw83) rfl)
  | 84, _ => xMf.of (hG.1 _ (List.mem_of_getElem? xm_cw84) rfl)
  | 85, _ => xMf.with (hG.1 _ (List.mem_of_getElem? xm_cw85) rfl)
  | 86, _ => xMf.of (hG.1 _ (List.mem_of_getElem? xm_cw86) rfl)
  | 87, _ => xMf.of (hG.1 _ (List.mem_of_getElem? xm_cw87) rfl)
  | 88, _ => xMf.of (hG.1 _ (List.mem_of_getElem? xm_cw88) rfl)
  | 89, _ => xMf.of (hG.1 _ (List.mem_of_getElem? xm_cw89) rfl)
  | 90, _ => xMf.of (hG.1 _ (List.mem_of_getElem? xm_cw90) rfl)
  | 91, _ => xMf.of (hG.1 _ (List.mem_of_getElem? xm_cw91) rfl)
  | 92, _ => xMf.of (hG.1 _ (List.mem_of_getElem? xm_cw92) rfl)
  | 93, _ => xMf.of (hG.1 _ (List.mem_of_getElem? xm_cw93) rfl)
  | 94, _ => xMf.of (hG.1 _ (List.mem_of_getElem? xm_cw94) rfl)
  | 95, _ => xMf.of (hG.1 _ (List.mem_of_getElem? xm_cw95) rfl)
  | 96, _ => xMf.of (hG.1 _ (List.mem_of_getElem? xm_cw96) rfl)
  | 97, _ => xMf.of (hG.1 _ (List.mem_of_getElem? xm_cw97) rfl)
  | 98, _ => xMf.of (hG.1 _ (List.mem_of_getElem? xm_cw98) rfl)
  | 99, _ => xMf.of (hG.1 _ (List.mem_of_getElem? xm_cw99) rfl)
  | 100, _ => xMf.of (hG.1 _ (List.mem_of_getElem? xm_cw100) rfl)
  | 101, _ => xMf.of (hG.1 _ (List.mem_of_getElem? xm_cw101) rfl)
  | 102, _ => xMf.with (hG.1 _ (List.mem_of_getElem? xm_cw102) rfl)
  | 103, _ => xMf.of (hG.1 _ (List.mem_of_getElem? xm_cw103) rfl)
  | 104, _ => xMf.of (hG.1 _ (List.mem_of_getElem? xm_cw104) rfl)
  | 105, _ => xMf.of (hG.1 _ (List.mem_of_getElem? xm_cw105) rfl)
  | 106, _ => xMf.with (hG.1 _ (List.mem_of_getElem? xm_cw106) rfl)
  | 107, _ => xMf.of (hG.1 _ (List.mem_of_getElem? xm_cw107) rfl)
  | 108, _ => xMf.of (hG.1 _ (List.mem_of_getElem? xm_cw108) rfl)
  | 109, _ => xMf.with (hG.1 _ (List.mem_of_getElem? xm_cw109) rfl)
  | 110, _ => xMf.of (hG.1 _ (List.mem_of_getElem? xm_cw110) rfl)
  | 111, _ => xMf.of (hG.1 _ (List.mem_of_getElem? xm_cw111) rfl)
  | 112, _ => xMf.of (hG.1 _ (List.mem_of_getElem? xm_cw112) rfl)
  | 113, _ => xMf.of (hG.1 _ (List.mem_of_getElem? xm_cw113) rfl)
  | 114, _ => xMf.with (hG.1 _ (List.mem_of_getElem? xm_cw114) rfl)
  | 115, _ => xMf.of (hG.1 _ (List.mem_of_getElem? xm_cw115) rfl)
  | 116, _ => xMf.of (hG.1 _ (List.mem_of_getElem? xm_cw116) rfl)
  | 117, _ => xMf.of (hG.1 _ (List.mem_of_getElem? xm_cw117) rfl)
  | 118, _ => xMf.of (hG.1 _ (List.mem_of_getElem? xm_cw118) rfl)
  | 119, _ => xMf.of (hG.1 _ (List.mem_of_getElem? xm_cw119) rfl)
  | 120, _ => xMf.with (hG.1 _ (List.mem_of_getElem? xm_cw120) rfl)
  | 121, _ => xMf.of (hG.1 _ (List.mem_of_getElem? xm_cw121) rfl)
  | 122, _ => xMf.of (hG.1 _ (List.mem_of_getElem? xm_cw122) rfl)
  | 123, _ => xMf.with (hG.1 _ (List.mem_of_getElem? xm_cw123) rfl)
  | 124, _ => xMf.of (hG.1 _ (List.mem_of_getElem? xm_cw124) rfl)
  | 125, _ => xMf.of (hG.1 _ (List.mem_of_getElem? xm_cw125) rfl)
  | 126, _ => xMf.with (hG.1 _ (List.mem_of_getElem? xm_cw126) rfl)
  | 127, _ => xMf.of (hG.1 _ (List.mem_of_getElem? xm_cw127) rfl)
  | 128, _ => xMf.of (hG.1 _ (List.mem_of_getElem? xm_cw128) rfl)
  | 129, _ => xMf.of (hG.1 _ (List.mem_of_getElem? xm_cw129) rfl)
  | 130, _ => xMf.of (hG.1 _ (List.mem_of_getElem? xm_cw130) rfl)
  | 131, _ => xMf.of (hG.1 _ (List.mem_of_getElem? xm_cw131) rfl)
  | 132, _ => xMf.with (hG.1 _ (List.mem_of_getElem? xm_cw132) rfl)
  | 133, _ => xMf.of (hG.1 _ (List.mem_of_getElem? xm_cw133) rfl)
  | 134, _ => xMf.of (hG.1 _ (List.mem_of_getElem? xm_cw134) rfl)
  | 135, _ => xMf.of (hG.1 _ (List.mem_of_getElem? xm_cw135) rfl)
  | 136, _ => xMf.of (hG.1 _ (List.mem_of_getElem? xm_cw136) rfl)
  | 137, _ => xMf.with (hG.1 _ (List.mem_of_getElem? xm_cw137) rfl)
  | 138, _ => xMf.of (hG.1 _ (List.mem_of_getElem? xm_cw138) rfl)
  | 139, _ => xMf.of (hG.1 _ (List.mem_of_getElem? xm_cw139) rfl)
  | 140, _ => xMf.with (hG.1 _ (List.mem_of_getElem? xm_cw140) rfl)
  | 141, _ => xMf.of (hG.1 _ (List.mem_of_getElem? xm_cw141) rfl)
  | 142, _ => xMf.of (hG.1 _ (List.mem_of_getElem? xm_cw142) rfl)
  | 143, _ => xMf.with (hG.1 _ (List.mem_of_getElem? xm_cw143) rfl)
  | 144, _ => xMf.of (hG.1 _ (List.mem_of_getElem? xm_cw144) rfl)
  | a + 145, h => absurd h (by omega)
theorem xm_mm (hG : xG D cs ad A H0 N xs s) {a : Nat} (ha : a < 145) : xmm a s := by
  have h := xm_mb_all a ha
  simp only [xm_mb, Bool.and_eq_true, decide_eq_true_eq] at h
  exact ⟨xm_mf hG a ha, h.1, h.2.1, h.2.2.1⟩
def xm_wb (b : Nat) : Bool := (u_ws (xm_cT b).1 (xm_cT b).2.1 (xm_cT b).2.2).all fun w => decide (w ∈ lw_tbl) && xgw w
theorem xm_wb0 : xm_wb 0 = true := by decide +kernel
theorem xm_wb1 : xm_wb 1 = true := by decide +kernel
theorem xm_wb3 : xm_wb 3 = true := by decide +kernel
theorem xm_wb6 : xm_wb 6 = true := by decide +kernel
theorem xm_wb8 : xm_wb 8 = true := by decide +kernel
theorem xm_wb10 : xm_wb 10 = true := by decide +kernel
theorem xm_wb12 : xm_wb 12 = true := by decide +kernel
theorem xm_wb18 : xm_wb 18 = true := by decide +kernel
theorem xm_wb_all : ∀ b, b < 19 → xm_nth xm_ak b = 0 → xm_wb b = true
  | 0, _, h => xm_wb0
  | 1, _, h => xm_wb1
  | 2, _, h => by cases h
  | 3, _, h => xm_wb3
  | 4, _, h => by cases h
  | 5, _, h => by cases h
  | 6, _, h => xm_wb6
  | 7, _, h => by cases h
  | 8, _, h => xm_wb8
  | 9, _, h => by cases h
  | 10, _, h => xm_wb10
  | 11, _, h => by cases h
  | 12, _, h => xm_wb12
  | 13, _, h => by cases h
  | 14, _, h => by cases h
  | 15, _, h => by cases h
  | 16, _, h => by cases h
  | 17, _, h => by cases h
  | 18, _, h => xm_wb18
  | b + 19, h, _ => absurd h (by omega)
def xm_tyf (b k : Nat) : FieldType := (parseFieldDescriptor ((xm_cT b).2.1 k).2.2.1).getD .int
def xm_sb (b : Nat) : Bool := ((List.range (xm_cT b).2.2).all fun k => (parseFieldDescriptor ((xm_cT b).2.1 k).2.2.1).isSome) && (((List.range (xm_cT b).2.2).all fun a => (List.range (xm_cT b).2.2).all fun c => decide (a = c) || decide (((xm_cT b).2.1 a).2.1 ≠ ((xm_cT b).2.1 c).2.1)) && ((List.range (xm_nthL xm_ftt b).length).all fun k => decide (3 ≤ xm_nth (xm_nthL xm_ftt b) k) || decide (parseFieldDescriptor ((xm_cT b).2.1 k).2.2.1 = some (xm_ty (xm_nth (xm_nthL xm_ftt b) k)))))
theorem xm_sb0 : xm_sb 0 = true := by decide +kernel
theorem xm_sb1 : xm_sb 1 = true := by decide +kernel
theorem xm_sb3 : xm_sb 3 = true := by decide +kernel
theorem xm_sb6 : xm_sb 6 = true := by decide +kernel
theorem xm_sb8 : xm_sb 8 = true := by decide +kernel
theorem xm_sb10 : xm_sb 10 = true := by decide +kernel
theorem xm_sb12 : xm_sb 12 = true := by decide +kernel
theorem xm_sb18 : xm_sb 18 = true := by decide +kernel
theorem xm_sb_all : ∀ b, b < 19 → xm_nth xm_ak b = 0 → xm_sb b = true
  | 0, _, h => xm_sb0
  | 1, _, h => xm_sb1
  | 2, _, h => by cases h
  | 3, _, h => xm_sb3
  | 4, _, h => by cases h
  | 5, _, h => by cases h
  | 6, _, h => xm_sb6
  | 7, _, h => by cases h
  | 8, _, h => xm_sb8
  | 9, _, h => by cases h
  | 10, _, h => xm_sb10
  | 11, _, h => by cases h
  | 12, _, h => xm_sb12
  | 13, _, h => by cases h
  | 14, _, h => by cases h
  | 15, _, h => by cases h
  | 16, _, h => by cases h
  | 17, _, h => by cases h
  | 18, _, h => xm_sb18
  | b + 19, h, _ => absurd h (by omega)
theorem xm_cf (hG : xG D cs ad A H0 N xs s) : xcf xm_cl s := by
  intro b C T n hc h0 hb
  obtain ⟨h1, h2⟩ := xm_cT_spec b hb h0
  have e : xm_cT b = (C, T, n) := Option.some.inj (h1.symm.trans hc)
  have hw := xm_wb_all b hb h0
  have hs := xm_sb_all b hb h0
  unfold xm_wb at hw
  unfold xm_sb at hs
  rw [e] at hw hs h2
  simp only [Bool.and_eq_true] at hs
  obtain ⟨s1, s2, s3⟩ := hs
  refine ⟨fun w hwm args => ?_, ⟨fun k => (parseFieldDescriptor (T k).2.2.1).getD .int, fun k hk => ?_⟩, fun a ha c hc hne => ?_, h2, fun k t hk ht => ?_⟩
  · have h3 := List.all_eq_true.mp hw w hwm
    simp only [Bool.and_eq_true, decide_eq_true_eq] at h3
    have h4 := hG.1 w h3.1 h3.2
    have hon : w.onTables = true := by
      obtain ⟨q, -, rfl⟩ := List.mem_map.mp hwm
      unfold u_lay
      split <;> rfl
    exact va_Nw.use hon h4
  · have h3 := List.all_eq_true.mp s1 k (List.mem_range.mpr hk)
    simp only at h3 ⊢
    obtain ⟨ty, hty⟩ := Option.isSome_iff_exists.mp h3
    rw [hty]
    rfl
  · have h3 := List.all_eq_true.mp (List.all_eq_true.mp s2 a (List.mem_range.mpr ha)) c (List.mem_range.mpr hc)
    simp only [Bool.or_eq_true, decide_eq_true_eq] at h3
    rcases h3 with h3 | h3
    · exact absurd h3 hne
    · exact h3
  · have hl : k < (xm_nthL xm_ftt b).length := (List.getElem?_eq_some_iff.mp hk).1
    have h3 := List.all_eq_true.mp s3 k (List.mem_range.mpr hl)
    have h5 := xm_nth_get hl
    rw [hk] at h5
    cases h5
    simp only [Bool.or_eq_true, decide_eq_true_eq] at h3
    rcases h3 with h3 | h3
    · omega
    · exact h3
theorem xm_acp : xm_is 614 (.native arraycopyName) = true ∧ xm_is 613 (.static arraycopyName) = true ∧ xm_is 66 (.initialized "java/lang/System") = true := by decide +kernel
theorem xm_hlks (k pc : Nat) (r : xm_Row) (s : State) (h : xm_row k pc = some r) (hG : xG D cs ad A H0 N xs s) : xlk ad (xm_mn k).cls xm_cl s r.2.1 r.2.2.2.1 r.2.2.2.2.1 r.2.2.2.2.2.1 r.2.2.2.2.2.2 ∧ xcs k r.2.1 r.2.2.2.1 r.2.2.2.2.1 xm_cl s := by
  have hk := xm_lok_all k (xm_row_lt h)
  obtain ⟨h1, -⟩ := xm_fd_spec h
  have h3 := List.all_eq_true.mp (xm_ix_all (d := []) (p := fun c => c.all (xm_lkb k)) rfl hk (pc / 16)) r h1
  have hck := (xm_hrow k pc r h).2.1
  obtain ⟨q0, i, n, a, b, c, d⟩ := r
  dsimp only at h3 hck ⊢
  cases i
  case ldc idx =>
    refine ⟨?_, trivial⟩
    simp only [xm_lkb] at h3
    cases ha : Nat.beq a 0 with
    | true =>
      rw [ha] at h3
      exact ⟨fun _ => xm_is_use h3 hG, fun hn => absurd (Nat.eq_of_beq_eq_true ha) hn⟩
    | false =>
      rw [ha] at h3
      simp only [cond_false, Bool.or_eq_true, decide_eq_true_eq] at h3
      refine ⟨(fun h0 => by rw [h0] at ha; cases ha), fun _ => ?_⟩
      rcases h3 with ⟨e1, e2⟩ | ⟨e1, e2⟩
      · rw [e1, e2]; exact hG.2.2.2.2.2.1.1
      · rw [e1, e2]; exact hG.2.2.2.2.2.1.2.1
  case ldc2_w idx => exact ⟨xm_is_use h3 hG, trivial⟩
  case getfield idx =>
    simp only [xm_ck, Bool.and_eq_true, decide_eq_true_eq] at hck
    exact ⟨xm_fk h3 hG hck.2.1 hck.2.2, trivial⟩
  case putfield idx =>
    simp only [xm_ck, Bool.and_eq_true, decide_eq_true_eq] at hck
    simp only [xm_lkb, Bool.and_eq_true, Bool.not_eq_true'] at h3
    refine ⟨⟨xm_fk h3.1 hG hck.2.1 hck.2.2, fun C T m hc => ?_⟩, trivial⟩
    obtain ⟨g1, -⟩ := xm_cT_spec b (xm_ftt_lt hck.2.2) hck.2.1
    have e : xm_cT b = (C, T, m) := Option.some.inj (g1.symm.trans hc)
    have h4 := h3.2
    rw [e] at h4
    exact h4
  case invokestatic idx =>
    simp only [xm_lkb] at h3
    cases ha : Nat.ble 200 a with
    | true =>
      rw [ha] at h3
      exact ⟨fun _ => ⟨xm_is_use h3 hG, xm_is_use xm_acp.1 hG, xm_is_use xm_acp.2.1 hG, xm_is_use xm_acp.2.2 hG⟩, fun hlt => by have := Nat.le_of_ble_eq_true ha; omega⟩
    | false =>
      rw [ha] at h3
      simp only [cond_false, Bool.and_eq_true, decide_eq_true_eq] at h3
      refine ⟨(fun h200 => by rw [Nat.ble_eq_true_of_le h200] at ha; cases ha), fun _ => ?_⟩
      have hlt : a < 145 := Nat.le_of_ble_eq_true h3.2.2.2.2
      have hm := xm_mb_all a hlt
      simp only [xm_mb, Bool.and_eq_true, decide_eq_true_eq] at hm
      rw [h3.2.2.2.1] at hm
      exact ⟨xm_mm hG hlt, Or.inl (xm_is_use h3.1 hG), xm_is_use hm.2.2.2.2 hG, xm_is_use hm.2.2.2.1 hG, h3.2.1, h3.2.2.1.1, h3.2.2.1.2⟩
  case invokevirtual idx =>
    simp only [xm_lkb] at h3
    refine ⟨trivial, fun h200 => ?_⟩
    have ha : Nat.ble 200 a = false := by
      cases ha : Nat.ble 200 a with
      | false => rfl
      | true => have := Nat.le_of_ble_eq_true ha; omega
    rw [ha] at h3
    simp only [cond_false, Bool.and_eq_true, decide_eq_true_eq] at h3
    have hlt : a < 145 := Nat.le_of_ble_eq_true h3.2.2.2.2
    have hm := xm_mb_all a hlt
    simp only [xm_mb, Bool.and_eq_true, decide_eq_true_eq] at hm
    obtain ⟨e1, e2, e3⟩ := h3.2.2.2.1
    have hrk : Nat.beq (xm_rk a) 99 = false := by
      cases hz : Nat.beq (xm_rk a) 99 with
      | false => rfl
      | true => have := Nat.eq_of_beq_eq_true hz; omega
    rw [hrk] at hm
    simp only [cond_false, Bool.and_eq_true] at hm
    obtain ⟨g1, -⟩ := xm_cT_spec (xm_rk a) e2 e1
    refine ⟨xm_mm hG hlt, Or.inl (xm_is_use h3.1 hG), xm_is_use hm.2.2.2.2.1 hG, xm_is_use hm.2.2.2.2.2 hG, h3.2.1, h3.2.2.1.1, h3.2.2.1.2, e1, (xm_cT (xm_rk a)).2.1, (xm_cT (xm_rk a)).2.2, ?_⟩
    rw [g1, ← e3]
  all_goals exact ⟨trivial, trivial⟩
end XL
