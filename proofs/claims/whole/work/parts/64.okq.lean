-- every row of the tables is what the code says (written by gen/ok.py)
theorem xm_ok145 : xm_mok 145 = true := by
  show (xm_r145.all fun c => c.all (xm_rok 145)) = true
  unfold xm_r145
  simp only [List.all_append, xm_okl0, xm_okl1, xm_okl2, xm_okl3, xm_okl4, xm_okl5, xm_okl6, xm_okl7, xm_okl8, xm_okl9, Bool.and_self]
theorem xm_mok_all : ∀ k, k < 146 → xm_mok k = true
  | 0, _ => xm_ok0
  | 1, _ => xm_ok1
  | 2, _ => xm_ok2
  | 3, _ => xm_ok3
  | 4, _ => xm_ok4
  | 5, _ => xm_ok5
  | 6, _ => xm_ok6
  | 7, _ => xm_ok7
  | 8, _ => xm_ok8
  | 9, _ => xm_ok9
  | 10, _ => xm_ok10
  | 11, _ => xm_ok11
  | 12, _ => xm_ok12
  | 13, _ => xm_ok13
  | 14, _ => xm_ok14
  | 15, _ => xm_ok15
  | 16, _ => xm_ok16
  | 17, _ => xm_ok17
  | 18, _ => xm_ok18
  | 19, _ => xm_ok19
  | 20, _ => xm_ok20
  | 21, _ => xm_ok21
  | 22, _ => xm_ok22
  | 23, _ => xm_ok23
  | 24, _ => xm_ok24
  | 25, _ => xm_ok25
  | 26, _ => xm_ok26
  | 27, _ => xm_ok27
  | 28, _ => xm_ok28
  | 29, _ => xm_ok29
  | 30, _ => xm_ok30
  | 31, _ => xm_ok31
  | 32, _ => xm_ok32
  | 33, _ => xm_ok33
  | 34, _ => xm_ok34
  | 35, _ => xm_ok35
  | 36, _ => xm_ok36
  | 37, _ => xm_ok37
  | 38, _ => xm_ok38
  | 39, _ => xm_ok39
  | 40, _ => xm_ok40
  | 41, _ => xm_ok41
  | 42, _ => xm_ok42
  | 43, _ => xm_ok43
  | 44, _ => xm_ok44
  | 45, _ => xm_ok45
  | 46, _ => xm_ok46
  | 47, _ => xm_ok47
  | 48, _ => xm_ok48
  | 49, _ => xm_ok49
  | 50, _ => xm_ok50
  | 51, _ => xm_ok51
  | 52, _ => xm_ok52
  | 53, _ => xm_ok53
  | 54, _ => xm_ok54
  | 55, _ => xm_ok55
  | 56, _ => xm_ok56
  | 57, _ => xm_ok57
  | 58, _ => xm_ok58
  | 59, _ => xm_ok59
  | 60, _ => xm_ok60
  | 61, _ => xm_ok61
  | 62, _ => xm_ok62
  | 63, _ => xm_ok63
  | 64, _ => xm_ok64
  | 65, _ => xm_ok65
  | 66, _ => xm_ok66
  | 67, _ => xm_ok67
  | 68, _ => xm_ok68
  | 69, _ => xm_ok69
  | 70, _ => xm_ok70
  | 71, _ => xm_ok71
  | 72, _ => xm_ok72
  | 73, _ => xm_ok73
  | 74, _ => xm_ok74
  | 75, _ => xm_ok75
  | 76, _ => xm_ok76
  | 77, _ => xm_ok77
  | 78, _ => xm_ok78
  | 79, _ => xm_ok79
  | 80, _ => xm_ok80
  | 81, _ => xm_ok81
  | 82, _ => xm_ok82
  | 83, _ => xm_ok83
  | 84, _ => xm_ok84
  | 85, _ => xm_ok85
  | 86, _ => xm_ok86
  | 87, _ => xm_ok87
  | 88, _ => xm_ok88
  | 89, _ => xm_ok89
  | 90, _ => xm_ok90
  | 91, _ => xm_ok91
  | 92, _ => xm_ok92
  | 93, _ => xm_ok93
  | 94, _ => xm_ok94
  | 95, _ => xm_ok95
  | 96, _ => xm_ok96
  | 97, _ => xm_ok97
  | 98, _ => xm_ok98
  | 99, _ => xm_ok99
  | 100, _ => xm_ok100
  | 101, _ => xm_ok101
  | 102, _ => xm_ok102
  | 103, _ => xm_ok103
  | 104, _ => xm_ok104
  | 105, _ => xm_ok105
  | 106, _ => xm_ok106
  | 107, _ => xm_ok107
  | 108, _ => xm_ok108
  | 109, _ => xm_ok109
  | 110, _ => xm_ok110
  | 111, _ => xm_ok111
  | 112, _ => xm_ok112
  | 113, _ => xm_ok113
  | 114, _ => xm_ok114
  | 115, _ => xm_ok115
  | 116, _ => xm_ok116
  | 117, _ => xm_ok117
  | 118, _ => xm_ok118
  | 119, _ => xm_ok119
  | 120, _ => xm_ok120
  | 121, _ => xm_ok121
  | 122, _ => xm_ok122
  | 123, _ => xm_ok123
  | 124, _ => xm_ok124
  | 125, _ => xm_ok125
  | 126, _ => xm_ok126
  | 127, _ => xm_ok127
  | 128, _ => xm_ok128
  | 129, _ => xm_ok129
  | 130, _ => xm_ok130
  | 131, _ => xm_ok131
  | 132, _ => xm_ok132
  | 133, _ => xm_ok133
  | 134, _ => xm_ok134
  | 135, _ => xm_ok135
  | 136, _ => xm_ok136
  | 137, _ => xm_ok137
  | 138, _ => xm_ok138
  | 139, _ => xm_ok139
  | 140, _ => xm_ok140
  | 141, _ => xm_ok141
  | 142, _ => xm_ok142
  | 143, _ => xm_ok143
  | 144, _ => xm_ok144
  | 145, _ => xm_ok145
  | k + 146, h => absurd h (by omega)
theorem xm_ix_ge {α : Type} {d : α} {l : List α} {n : Nat} (h : l.length ≤ n) : xm_ix d l n = d := by
  induction l generalizing n with
  | nil => rfl
  | cons a r ih => cases n with
    | zero => simp at h
    | succ n => exact ih (by simpa using h)
theorem xm_ix_all {α : Type} {d : α} {p : α → Bool} (hd : p d = true) {l : List α} (h : l.all p = true) (n : Nat) : p (xm_ix d l n) = true := by
  induction l generalizing n with
  | nil => exact hd
  | cons a r ih =>
    simp only [List.all_cons, Bool.and_eq_true] at h
    cases n with
    | zero => exact h.1
    | succ n => exact ih h.2 n
theorem xm_fd_spec {l : List xm_Row} {pc : Nat} {r : xm_Row} (h : xm_fd l pc = some r) : r ∈ l ∧ r.1 = pc := by
  induction l with
  | nil => cases h
  | cons a t ih =>
    rw [xm_fd] at h
    cases hb : Nat.beq a.1 pc with
    | true =>
      rw [hb] at h
      cases h
      exact ⟨List.mem_cons_self, Nat.eq_of_beq_eq_true hb⟩
    | false =>
      rw [hb] at h
      obtain ⟨h1, h2⟩ := ih h
      exact ⟨List.mem_cons_of_mem _ h1, h2⟩
theorem xm_rw_ge {k : Nat} (h : 146 ≤ k) : xm_rw k = [] := by
  unfold xm_rw
  by_cases h2 : k < 156
  · rw [show k / 12 = 12 by omega]
    have h3 : 2 ≤ k % 12 := by omega
    exact xm_ix_ge (l := [xm_r144, xm_r145]) h3
  · rw [xm_ix_ge (l := xm_all) (show 13 ≤ k / 12 by omega)]
    rfl
theorem xm_row_lt {k pc : Nat} {r : xm_Row} (h : xm_row k pc = some r) : k < 146 := by
  apply Nat.lt_of_not_le
  intro hk
  unfold xm_row at h
  rw [xm_rw_ge hk] at h
  cases h
theorem xm_hrow (k pc : Nat) (r : xm_Row) (h : xm_row k pc = some r) : decode (xm_code k) pc = .ok (r.2.1, r.2.2.1) ∧ xm_ck (xm_ml k) pc r.2.1 r.2.2.1 r.2.2.2.1 r.2.2.2.2.1 r.2.2.2.2.2.1 r.2.2.2.2.2.2 = true ∧ xm_rets k r.2.1 ∧ (∀ v, r.2.1 = .invokestatic v → 200 ≤ r.2.2.2.1 → 1 ≤ xm_fr k ∧ nativeFrameWords "java/lang/System" "arraycopy" 5 + 11 ≤ xm_lo k) := by
  have hk := xm_mok_all k (xm_row_lt h)
  obtain ⟨h1, h2⟩ := xm_fd_spec h
  have h3 := List.all_eq_true.mp (xm_ix_all (d := []) (p := fun c => c.all (xm_rok k)) rfl hk (pc / 16)) r h1
  simp only [xm_rok, Bool.and_eq_true, decide_eq_true_eq] at h3
  subst h2
  refine ⟨h3.1, h3.2.1, xm_retb_spec h3.2.2.1, fun v hv => ?_⟩
  have h4 := h3.2.2.2
  rw [hv] at h4
  simp only [xm_cpb, decide_eq_true_eq] at h4
  exact h4
