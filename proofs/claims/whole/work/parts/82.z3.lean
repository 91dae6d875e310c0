-- loads, stores, fields, arrays, calls over whole numbers (own work)
def z_ldi (o : Option zV) (pn : Nat) (L : zL) (st : List zV) (m : zM) (cl : Bool) : Option zO := match o with
  | some (.inl x) => zoN (pn, L, zI x :: st, m, cl)
  | _ => none
def z_ldl (o : Option zV) (pn : Nat) (L : zL) (st : List zV) (m : zM) (cl : Bool) : Option zO := match o with
  | some (.inr (.inl x)) => zoN (pn, L, zJ x :: st, m, cl)
  | _ => none
def z_lda (o : Option zV) (pn : Nat) (L : zL) (st : List zV) (m : zM) (cl : Bool) : Option zO := match o with
  | some (.inr (.inr (k, j))) => zoN (pn, L, zR k j :: st, m, cl)
  | _ => none
def z_sti (n pn : Nat) (L : zL) (st : List zV) (m : zM) (cl : Bool) : Option zO := match st with
  | .inl x :: r => zoN (pn, z_s1 L n (zI x), r, m, cl)
  | _ => none
def z_stl (n pn : Nat) (L : zL) (st : List zV) (m : zM) (cl : Bool) : Option zO := match st with
  | .inr (.inl x) :: r => zoN (pn, z_s2 L n (zJ x), r, m, cl)
  | _ => none
def z_sta (n pn : Nat) (L : zL) (st : List zV) (m : zM) (cl : Bool) : Option zO := match st with
  | .inr (.inr (k, j)) :: r => zoN (pn, z_s1 L n (zR k j), r, m, cl)
  | _ => none
def z_inc (o : Option zV) (n pn : Nat) (c : Int32) (L : zL) (st : List zV) (m : zM) (cl : Bool) : Option zO := match o with
  | some (.inl x) => zoN (pn, z_s1 L n (zI (x + c.toInt)), st, m, cl)
  | _ => none
theorem z_ldi_ok (o : Option zV) (pn : Nat) (L : zL) (st : List zV) (m : zM) (cl : Bool) : z_ok (z_ldi o pn L st m cl) (xm_ldi (z_o o) pn (z_L L) (z_st st) (z_m m) cl) := by
  rcases o with _ | x | x | x <;> first | exact trivial | rfl
theorem z_ldl_ok (o : Option zV) (pn : Nat) (L : zL) (st : List zV) (m : zM) (cl : Bool) : z_ok (z_ldl o pn L st m cl) (xm_ldl (z_o o) pn (z_L L) (z_st st) (z_m m) cl) := by
  rcases o with _ | x | x | x <;> first | exact trivial | rfl
theorem z_lda_ok (o : Option zV) (pn : Nat) (L : zL) (st : List zV) (m : zM) (cl : Bool) : z_ok (z_lda o pn L st m cl) (xm_lda (z_o o) pn (z_L L) (z_st st) (z_m m) cl) := by
  rcases o with _ | x | x | x <;> first | exact trivial | rfl
theorem z_sti_ok (n pn : Nat) (L : zL) (st : List zV) (m : zM) (cl : Bool) : z_ok (z_sti n pn L st m cl) (xm_sti n pn (z_L L) (z_st st) (z_m m) cl) := by
  rcases st with _ | ⟨x | x | x, r⟩ <;> first | exact trivial | skip
  show xm_sti n pn (z_L L) (xI (zi x) :: z_st r) (z_m m) cl = _
  simp only [xm_sti]
  rw [show xI (zi x) = z_v (zI x) from rfl, z_s1_L]; rfl
theorem z_stl_ok (n pn : Nat) (L : zL) (st : List zV) (m : zM) (cl : Bool) : z_ok (z_stl n pn L st m cl) (xm_stl n pn (z_L L) (z_st st) (z_m m) cl) := by
  rcases st with _ | ⟨x | x | x, r⟩ <;> first | exact trivial | skip
  show xm_stl n pn (z_L L) (xJ (zl x) :: z_st r) (z_m m) cl = _
  simp only [xm_stl]
  rw [show xJ (zl x) = z_v (zJ x) from rfl, z_s2_L]; rfl
theorem z_sta_ok (n pn : Nat) (L : zL) (st : List zV) (m : zM) (cl : Bool) : z_ok (z_sta n pn L st m cl) (xm_sta n pn (z_L L) (z_st st) (z_m m) cl) := by
  rcases st with _ | ⟨x | x | ⟨k, j⟩, r⟩ <;> first | exact trivial | skip
  show xm_sta n pn (z_L L) (xR k j :: z_st r) (z_m m) cl = _
  simp only [xm_sta]
  rw [show xR k j = z_v (zR k j) from rfl, z_s1_L]; rfl
theorem z_inc_ok (o : Option zV) (n pn : Nat) (c : Int32) (L : zL) (st : List zV) (m : zM) (cl : Bool) : z_ok (z_inc o n pn c L st m cl) (xm_inc (z_o o) n pn c (z_L L) (z_st st) (z_m m) cl) := by
  rcases o with _ | x | x | x <;> first | exact trivial | skip
  show xm_inc (some (xI (zi x))) n pn c (z_L L) (z_st st) (z_m m) cl = _
  simp only [xm_inc]
  rw [show xI (zi x + c) = z_v (zI (x + c.toInt)) by simp [z_v], z_s1_L]; rfl
def z_gf (t k j a pn : Nat) (L : zL) (r : List zV) (m : zM) (cl : Bool) : Option zO := match t with
  | 0 => zoN (pn, L, zI (m.1 k j a) :: r, m, cl)
  | 1 => zoN (pn, L, zJ (m.2.1 k j a) :: r, m, cl)
  | 2 => zoN (pn, L, zI (m.1 k j a) :: r, m, cl)
  | t + 3 => zoN (pn, L, zR t j :: r, m, cl)
def z_pf (t k j a pn : Nat) (v : zV) (L : zL) (r : List zV) (m : zM) : Option zO := match t, v with
  | 0, .inl x => zoN (pn, L, r, z_w m k j a x, false)
  | 1, .inr (.inl x) => zoN (pn, L, r, z_wl m k j a x, false)
  | 2, .inl x => zoC (x = 0 ∨ x = 1) (pn, L, r, z_w m k j a x, false)
  | _, _ => none
def z_get (a b pn : Nat) (ft : List Nat) (L : zL) (st : List zV) (m : zM) (cl : Bool) : Option zO := match st with
  | .inr (.inr (k, j)) :: r => bif Nat.beq k b then z_gf (xm_nth ft a) k j a pn L r m cl else none
  | _ => none
def z_put (a b pn : Nat) (ft : List Nat) (L : zL) (st : List zV) (m : zM) : Option zO := match st with
  | v :: .inr (.inr (k, j)) :: r => bif Nat.beq k b then z_pf (xm_nth ft a) k j a pn v L r m else none
  | _ => none
theorem z_gf_ok (t k j a pn : Nat) (L : zL) (r : List zV) (m : zM) (cl : Bool) : z_ok (z_gf t k j a pn L r m cl) (xm_gf t k j a pn (z_L L) (z_st r) (z_m m) cl) := by
  match t with
  | 0 => rfl
  | 1 => rfl
  | 2 => rfl
  | t + 3 => rfl
theorem z_isb {x : Int} (h : x = 0 ∨ x = 1) : xm_isb (zi x) = true := by
  rcases h with h | h <;> subst h <;> rfl
theorem z_pf_ok (t k j a pn : Nat) (v : zV) (L : zL) (r : List zV) (m : zM) : z_ok (z_pf t k j a pn v L r m) (xm_pf t k j a pn (z_v v) (z_L L) (z_st r) (z_m m)) := by
  match t, v with
  | 0, .inl x => show xm_pf 0 k j a pn (xI (zi x)) (z_L L) (z_st r) (z_m m) = _; simp only [xm_pf, z_m_w]; rfl
  | 1, .inr (.inl x) => show xm_pf 1 k j a pn (xJ (zl x)) (z_L L) (z_st r) (z_m m) = _; simp only [xm_pf, z_m_wl]; rfl
  | 2, .inl x => intro hq; refine Or.inr ?_; show xm_pf 2 k j a pn (xI (zi x)) (z_L L) (z_st r) (z_m m) = _; simp only [xm_pf, z_m_w, z_isb hq]; rfl
  | 0, .inr v => exact trivial
  | 1, .inl v => exact trivial
  | 1, .inr (.inr v) => exact trivial
  | 2, .inr v => exact trivial
  | _ + 3, .inl v => exact trivial
  | _ + 3, .inr (.inl v) => exact trivial
  | _ + 3, .inr (.inr v) => exact trivial
theorem z_get_ok (a b pn : Nat) (ft : List Nat) (L : zL) (st : List zV) (m : zM) (cl : Bool) : z_ok (z_get a b pn ft L st m cl) (xm_get a b pn ft (z_L L) (z_st st) (z_m m) cl) := by
  rcases st with _ | ⟨x | x | ⟨k, j⟩, r⟩ <;> first | exact trivial | skip
  show z_ok (bif Nat.beq k b then z_gf (xm_nth ft a) k j a pn L r m cl else none) (bif Nat.beq k b then xm_gf (xm_nth ft a) k j a pn (z_L L) (z_st r) (z_m m) cl else none)
  cases Nat.beq k b with
  | true => exact z_gf_ok _ _ _ _ _ _ _ _ _
  | false => exact trivial
theorem z_put_ok (a b pn : Nat) (ft : List Nat) (L : zL) (st : List zV) (m : zM) : z_ok (z_put a b pn ft L st m) (xm_put a b pn ft (z_L L) (z_st st) (z_m m)) := by
  rcases st with _ | ⟨v, _ | ⟨x | x | ⟨k, j⟩, r⟩⟩ <;> first | exact trivial | skip
  show z_ok (bif Nat.beq k b then z_pf (xm_nth ft a) k j a pn v L r m else none) (bif Nat.beq k b then xm_pf (xm_nth ft a) k j a pn (z_v v) (z_L L) (z_st r) (z_m m) else none)
  cases Nat.beq k b with
  | true => exact z_pf_ok _ _ _ _ _ _ _ _ _
  | false => exact trivial
-- an index within
abbrev z_wi (i : Int) (n : Nat) : Prop := 0 ≤ i ∧ i < (n : Int) ∧ i ≤ 2147483647
def z_ald (w e n k j pn : Nat) (i : Int) (L : zL) (r : List zV) (m : zM) (cl : Bool) : Option zO :=
  bif Nat.beq w e then
    (match e with
    | 3 => zoC (z_wi i n) (pn, L, zJ (m.2.1 k j i.toNat) :: r, m, cl)
    | 4 => zoC (z_wi i n) (pn, L, zR 10 i.toNat :: r, m, cl)
    | _ => zoC (z_wi i n) (pn, L, zI (m.1 k j i.toNat) :: r, m, cl))
  else bif Nat.beq w 1 && Nat.beq e 5 then zoC (z_wi i m.2.2) (pn, L, zI (m.1 k j i.toNat) :: r, m, cl)
  else none
def z_als (ak al : List Nat) (w pn : Nat) (L : zL) (st : List zV) (m : zM) (cl : Bool) : Option zO := match st with
  | .inl i :: .inr (.inr (k, j)) :: r => z_ald w (xm_nth ak k) (xm_nth al k) k j pn i L r m cl
  | _ => none
theorem z_ald_ok (w e n k j pn : Nat) (i : Int) (L : zL) (r : List zV) (m : zM) (cl : Bool) : z_ok (z_ald w e n k j pn i L r m cl) (xm_ald w e n k j pn (zi i) (z_L L) (z_st r) (z_m m) cl) := by
  unfold z_ald xm_ald
  cases Nat.beq w e with
  | true =>
    match e with
    | 3 => intro h; refine Or.inr ?_; dsimp only [cond_true]; rw [z_in h, z_nat (by have := h.1; have := h.2.2; omega)]; rfl
    | 4 => intro h; refine Or.inr ?_; dsimp only [cond_true]; rw [z_in h, z_nat (by have := h.1; have := h.2.2; omega)]; rfl
    | 0 => intro h; refine Or.inr ?_; dsimp only [cond_true]; rw [z_in h, z_nat (by have := h.1; have := h.2.2; omega)]; rfl
    | 1 => intro h; refine Or.inr ?_; dsimp only [cond_true]; rw [z_in h, z_nat (by have := h.1; have := h.2.2; omega)]; rfl
    | 2 => intro h; refine Or.inr ?_; dsimp only [cond_true]; rw [z_in h, z_nat (by have := h.1; have := h.2.2; omega)]; rfl
    | e + 5 => intro h; refine Or.inr ?_; dsimp only [cond_true]; rw [z_in h, z_nat (by have := h.1; have := h.2.2; omega)]; rfl
  | false =>
    dsimp only [cond_false]
    cases Nat.beq w 1 && Nat.beq e 5 with
    | true => intro h; refine Or.inr ?_; dsimp only [cond_true]; rw [z_nat (by have := h.1; have := h.2.2; omega)]; rw [show (z_m m).2.2 = m.2.2 from rfl, z_in h]; rfl
    | false => exact trivial
theorem z_als_ok (ak al : List Nat) (w pn : Nat) (L : zL) (st : List zV) (m : zM) (cl : Bool) : z_ok (z_als ak al w pn L st m cl) (xm_als ak al w pn (z_L L) (z_st st) (z_m m) cl) := by
  rcases st with _ | ⟨i | i | i, _ | ⟨x | x | ⟨k, j⟩, r⟩⟩ <;> first | exact trivial | skip
  exact z_ald_ok _ _ _ _ _ _ _ _ _ _ _
def z_ast (ak al : List Nat) (w pn : Nat) (L : zL) (st : List zV) (m : zM) : Option zO := match st with
  | .inl x :: .inl i :: .inr (.inr (k, j)) :: r => bif Nat.beq w (xm_nth ak k) then
      (match w with
      | 1 => zoC (z_wi i (xm_nth al k)) (pn, L, r, z_w m k j i.toNat x, false)
      | 2 => zoC (z_wi i (xm_nth al k) ∧ 0 ≤ x ∧ x ≤ 65535) (pn, L, r, z_w m k j i.toNat x, false)
      | _ => none) else none
  | .inr (.inl x) :: .inl i :: .inr (.inr (k, j)) :: r => bif Nat.beq w 3 && Nat.beq 3 (xm_nth ak k) then zoC (z_wi i (xm_nth al k)) (pn, L, r, z_wl m k j i.toNat x, false) else none
  | _ => none
theorem z_ast_ok (ak al : List Nat) (w pn : Nat) (L : zL) (st : List zV) (m : zM) : z_ok (z_ast ak al w pn L st m) (xm_ast ak al w pn (z_L L) (z_st st) (z_m m)) := by
  rcases st with _ | ⟨x | x | x, _ | ⟨i | i | i, _ | ⟨y | y | ⟨k, j⟩, r⟩⟩⟩ <;> first | exact trivial | skip
  · show z_ok (bif Nat.beq w (xm_nth ak k) then _ else none) (bif Nat.beq w (xm_nth ak k) then _ else none)
    cases Nat.beq w (xm_nth ak k) with
    | false => exact trivial
    | true =>
      dsimp only [cond_true]
      match w with
      | 1 => intro h; refine Or.inr ?_; dsimp only; rw [z_in h, z_nat (by have := h.1; have := h.2.2; omega), z_m_w]; rfl
      | 2 => intro h; refine Or.inr ?_; dsimp only; rw [z_in h.1, z_nat (by have := h.1.1; have := h.1.2.2; omega), z_nar h.2, z_m_w]; rfl
      | 0 => exact trivial
      | w + 3 => exact trivial
  · show z_ok (bif Nat.beq w 3 && Nat.beq 3 (xm_nth ak k) then _ else none) (bif Nat.beq w 3 && Nat.beq 3 (xm_nth ak k) then _ else none)
    cases Nat.beq w 3 && Nat.beq 3 (xm_nth ak k) with
    | false => exact trivial
    | true =>
      intro h; refine Or.inr ?_; dsimp only [cond_true]; rw [z_in h, z_nat (by have := h.1; have := h.2.2; omega), z_m_wl]; rfl
def z_alen (ak al : List Nat) (pn : Nat) (L : zL) (st : List zV) (m : zM) (cl : Bool) : Option zO := match st with
  | .inr (.inr (k, _)) :: r => bif Nat.beq (xm_nth ak k) 5 then zoN (pn, L, zI (Int.ofNat m.2.2) :: r, m, cl) else bif Nat.beq (xm_nth ak k) 0 || Nat.beq (xm_nth ak k) 7 then none else zoN (pn, L, zI (Int.ofNat (xm_nth al k)) :: r, m, cl)
  | _ => none
theorem z_alen_ok (ak al : List Nat) (pn : Nat) (L : zL) (st : List zV) (m : zM) (cl : Bool) : z_ok (z_alen ak al pn L st m cl) (xm_alen ak al pn (z_L L) (z_st st) (z_m m) cl) := by
  rcases st with _ | ⟨x | x | ⟨k, j⟩, r⟩ <;> first | exact trivial | skip
  show z_ok (bif Nat.beq (xm_nth ak k) 5 then _ else _) (bif Nat.beq (xm_nth ak k) 5 then _ else _)
  cases Nat.beq (xm_nth ak k) 5 with
  | true => show oN _ = oN _; rw [show (z_m m).2.2 = m.2.2 from rfl, ← Int32.ofInt_eq_ofNat]; rfl
  | false =>
    dsimp only [cond_false]
    cases Nat.beq (xm_nth ak k) 0 || Nat.beq (xm_nth ak k) 7 with
    | true => exact trivial
    | false => show oN _ = oN _; rw [← Int32.ofInt_eq_ofNat]; rfl
def z_cp (m : zM) (k j k1 j1 : Nat) : zM := z_w (z_w (z_w m k1 j1 0 (m.1 k j 0)) k1 j1 1 (m.1 k j 1)) k1 j1 2 (m.1 k j 2)
def z_copy (ak al : List Nat) (pn : Nat) (L : zL) (st : List zV) (m : zM) : Option zO := match st with
  | [.inl n, .inl dp, .inr (.inr (k1, j1)), .inl sp, .inr (.inr (k, j))] =>
    bif (Nat.beq (xm_nth ak k) 1 && Nat.beq (xm_nth al k) 3) && (Nat.beq (xm_nth ak k1) 1 && Nat.beq (xm_nth al k1) 3) then
      zoC (n = 3 ∧ dp = 0 ∧ sp = 0) (pn, L, [], z_cp m k j k1 j1, false) else none
  | _ => none
theorem z_copy_ok (ak al : List Nat) (pn : Nat) (L : zL) (st : List zV) (m : zM) : z_ok (z_copy ak al pn L st m) (xm_copy ak al pn (z_L L) (z_st st) (z_m m)) := by
  rcases st with _ | ⟨n | n | n, _ | ⟨dp | dp | dp, _ | ⟨x | x | ⟨k1, j1⟩, _ | ⟨sp | sp | sp, _ | ⟨y | y | ⟨k, j⟩, _ | ⟨z, r⟩⟩⟩⟩⟩⟩ <;> first | exact trivial | skip
  show z_ok (bif (Nat.beq (xm_nth ak k) 1 && Nat.beq (xm_nth al k) 3) && (Nat.beq (xm_nth ak k1) 1 && Nat.beq (xm_nth al k1) 3) then _ else none) (bif (Nat.beq (xm_nth ak k) 1 && Nat.beq (xm_nth al k) 3) && (Nat.beq (xm_nth ak k1) 1 && Nat.beq (xm_nth al k1) 3) then _ else none)
  cases (Nat.beq (xm_nth ak k) 1 && Nat.beq (xm_nth al k) 3) && (Nat.beq (xm_nth ak k1) 1 && Nat.beq (xm_nth al k1) 3) with
  | false => exact trivial
  | true =>
    rintro ⟨h1, h2, h3⟩
    subst h1; subst h2; subst h3
    refine Or.inr ?_
    dsimp only [cond_true]
    rw [show xm_cp (z_m m) k j k1 j1 = z_m (z_cp m k j k1 j1) by simp only [xm_cp, z_cp, ← z_m_w]; rfl]
    rfl
def z_dup (pn : Nat) (L : zL) (st : List zV) (m : zM) (cl : Bool) : Option zO := match st with
  | v :: r => bif z_isl (some v) then none else zoN (pn, L, v :: v :: r, m, cl)
  | _ => none
def z_pp (pn : Nat) (L : zL) (st : List zV) (m : zM) (cl : Bool) : Option zO := match st with
  | v :: r => bif z_isl (some v) then none else zoN (pn, L, r, m, cl)
  | _ => none
def z_dupx1 (pn : Nat) (L : zL) (st : List zV) (m : zM) (cl : Bool) : Option zO := match st with
  | v :: u :: r => bif z_isl (some v) || z_isl (some u) then none else zoN (pn, L, v :: u :: v :: r, m, cl)
  | _ => none
def z_dupx2 (pn : Nat) (L : zL) (st : List zV) (m : zM) (cl : Bool) : Option zO := match st with
  | v :: u :: t :: r => bif z_isl (some v) || (z_isl (some u) || z_isl (some t)) then none else zoN (pn, L, v :: u :: t :: v :: r, m, cl)
  | _ => none
def z_dup2 (pn : Nat) (L : zL) (st : List zV) (m : zM) (cl : Bool) : Option zO := match st with
  | v :: u :: r => bif z_isl (some v) || z_isl (some u) then none else zoN (pn, L, v :: u :: v :: u :: r, m, cl)
  | _ => none
theorem z_bif {b c : Bool} (h : c = b) {x : Option zO} {y : Option xm_O} (hx : z_ok x y) : z_ok (bif b then none else x) (bif c then none else y) := by
  subst h; cases c with
  | true => exact trivial
  | false => exact hx
theorem z_bif2 {b c : Bool} (h : c = b) {x : Option zO} {y : Option xm_O} (hx : b = true → z_ok x y) : z_ok (bif b then x else none) (bif c then y else none) := by
  subst h; cases c with
  | true => exact hx rfl
  | false => exact trivial
theorem z_dup_ok (pn : Nat) (L : zL) (st : List zV) (m : zM) (cl : Bool) : z_ok (z_dup pn L st m cl) (xm_dup pn (z_L L) (z_st st) (z_m m) cl) := by
  rcases st with _ | ⟨v, r⟩
  · exact trivial
  · exact z_bif (z_isl_v v) rfl
theorem z_pp_ok (pn : Nat) (L : zL) (st : List zV) (m : zM) (cl : Bool) : z_ok (z_pp pn L st m cl) (xm_pp pn (z_L L) (z_st st) (z_m m) cl) := by
  rcases st with _ | ⟨v, r⟩
  · exact trivial
  · exact z_bif (z_isl_v v) rfl
theorem z_dupx1_ok (pn : Nat) (L : zL) (st : List zV) (m : zM) (cl : Bool) : z_ok (z_dupx1 pn L st m cl) (xm_dupx1 pn (z_L L) (z_st st) (z_m m) cl) := by
  rcases st with _ | ⟨v, _ | ⟨u, r⟩⟩ <;> first | exact trivial | skip
  exact z_bif (by rw [z_isl_v, z_isl_v]) rfl
theorem z_dupx2_ok (pn : Nat) (L : zL) (st : List zV) (m : zM) (cl : Bool) : z_ok (z_dupx2 pn L st m cl) (xm_dupx2 pn (z_L L) (z_st st) (z_m m) cl) := by
  rcases st with _ | ⟨v, _ | ⟨u, _ | ⟨t, r⟩⟩⟩ <;> first | exact trivial | skip
  exact z_bif (by rw [z_isl_v, z_isl_v, z_isl_v]) rfl
theorem z_dup2_ok (pn : Nat) (L : zL) (st : List zV) (m : zM) (cl : Bool) : z_ok (z_dup2 pn L st m cl) (xm_dup2 pn (z_L L) (z_st st) (z_m m) cl) := by
  rcases st with _ | ⟨v, _ | ⟨u, r⟩⟩ <;> first | exact trivial | skip
  exact z_bif (by rw [z_isl_v, z_isl_v]) rfl
def z_sw (f : Int32 → Nat) (L : zL) (st : List zV) (m : zM) (cl : Bool) : Option zO := match st with
  | .inl x :: r => zoN (f (zi x), L, r, m, cl)
  | _ => none
theorem z_sw_ok (f : Int32 → Nat) (L : zL) (st : List zV) (m : zM) (cl : Bool) : z_ok (z_sw f L st m cl) (xm_sw f (z_L L) (z_st st) (z_m m) cl) := by
  rcases st with _ | ⟨x | x | x, r⟩ <;> first | exact trivial | rfl
def z_pop : Nat → List zV → List zV → Option (List zV × List zV)
  | 0, as, st => some (as, st)
  | n + 1, as, v :: st => z_pop n (v :: as) st
  | _ + 1, _, [] => none
def z_pp2 (o : Option (List zV × List zV)) : Option (List xm_V × List xm_V) := match o with
  | some q => some (z_st q.1, z_st q.2)
  | none => none
theorem z_pop_ok : ∀ (n : Nat) (as st : List zV), xm_pop n (z_st as) (z_st st) = z_pp2 (z_pop n as st)
  | 0, _, _ => rfl
  | n + 1, as, v :: st => z_pop_ok n (v :: as) st
  | _ + 1, _, [] => rfl
def z_wt : List zV → Nat
  | [] => 0
  | v :: r => (bif z_isl (some v) then 2 else 1) + z_wt r
theorem z_wt_st : ∀ st : List zV, xm_wt (z_st st) = z_wt st
  | [] => rfl
  | v :: r => by show (bif xm_isl (some (z_v v)) then 2 else 1) + xm_wt (z_st r) = _; rw [z_isl_v, z_wt_st r]; rfl
def z_call (ml k n pn : Nat) (L : zL) (st : List zV) (m : zM) (cl : Bool) : Option zO := match z_pop n [] st with
  | some (as, r) => bif Nat.ble (z_wt r) 8 && Nat.ble (z_wt as) ml then zoK k as (pn, L, r, m, cl) else none
  | none => none
def z_callv (ml rk k n pn : Nat) (L : zL) (st : List zV) (m : zM) (cl : Bool) : Option zO := match z_pop n [] st with
  | some (.inr (.inr (q, j)) :: as, r) => bif (Nat.ble (z_wt r) 8 && Nat.ble (z_wt (zR q j :: as)) ml) && Nat.beq q rk then zoK k (zR q j :: as) (pn, L, r, m, cl) else none
  | _ => none
theorem z_call_ok (ml k n pn : Nat) (L : zL) (st : List zV) (m : zM) (cl : Bool) : z_ok (z_call ml k n pn L st m cl) (xm_call ml k n pn (z_L L) (z_st st) (z_m m) cl) := by
  unfold z_call xm_call
  rw [show ([] : List xm_V) = z_st [] from rfl, z_pop_ok]
  rcases z_pop n [] st with _ | ⟨as, r⟩
  · exact trivial
  · exact z_bif2 (by dsimp only; rw [z_wt_st, z_wt_st]) (fun _ => rfl)
theorem z_callv_ok (ml rk k n pn : Nat) (L : zL) (st : List zV) (m : zM) (cl : Bool) : z_ok (z_callv ml rk k n pn L st m cl) (xm_callv ml rk k n pn (z_L L) (z_st st) (z_m m) cl) := by
  unfold z_callv xm_callv
  rw [show ([] : List xm_V) = z_st [] from rfl, z_pop_ok]
  rcases z_pop n [] st with _ | ⟨_ | ⟨x | x | ⟨q, j⟩, as⟩, r⟩ <;> first | exact trivial | skip
  refine z_bif2 ?_ (fun _ => rfl)
  dsimp only
  rw [show xR q j :: z_st as = z_st (zR q j :: as) from rfl, z_wt_st, z_wt_st]
def z_chr (i : Int) : Int := if i = 0 then 88 else if i = 1 then 89 else 69
def z_idx (c : Int) : Int := if c = 88 then 0 else if c = 89 then 1 else if c = 69 then 2 else -1
def z_str (a pn : Nat) (L : zL) (st : List zV) (m : zM) (cl : Bool) : Option zO := match st with
  | .inl i :: .inr (.inr (k, _)) :: r => bif Nat.beq k 33 && Nat.ble (z_wt r) 8 then (bif Nat.beq a 201 then zoC (0 ≤ i ∧ i < 3) (pn, L, zI (z_chr i) :: r, m, cl) else bif Nat.beq a 202 then zoC (zr i) (pn, L, zI (z_idx i) :: r, m, cl) else none) else none
  | _ => none
theorem z_str_ok (a pn : Nat) (L : zL) (st : List zV) (m : zM) (cl : Bool) : z_ok (z_str a pn L st m cl) (xm_str a pn (z_L L) (z_st st) (z_m m) cl) := by
  rcases st with _ | ⟨i | i | i, _ | ⟨x | x | ⟨k, j⟩, r⟩⟩ <;> first | exact trivial | skip
  refine z_bif2 (by rw [z_wt_st]) (fun _ => ?_)
  cases Nat.beq a 201 with
  | true =>
    intro h; refine Or.inr ?_; dsimp only [cond_true]
    rw [z_in (n := 3) ⟨h.1, h.2, by omega⟩]
    have hi : zr i := by omega
    have e : xm_chr (zi i) = zi (z_chr i) := by
      have e0 : (0 : Int32) = zi 0 := rfl
      have e1 : (1 : Int32) = zi 1 := rfl
      simp only [xm_chr, z_chr, e0, e1, z_eq hi (show zr 0 by omega), z_eq hi (show zr 1 by omega)]
      split
      · rfl
      · split <;> rfl
    rw [e]; rfl
  | false =>
    dsimp only [cond_false]
    cases Nat.beq a 202 with
    | false => exact trivial
    | true =>
      intro h; refine Or.inl ?_; dsimp only [cond_true]
      have e : xm_idx (zi i) = zi (z_idx i) := by
        have e0 : (88 : Int32) = zi 88 := rfl
        have e1 : (89 : Int32) = zi 89 := rfl
        have e2 : (69 : Int32) = zi 69 := rfl
        simp only [xm_idx, z_idx, e0, e1, e2, z_eq h (show zr 88 by omega), z_eq h (show zr 89 by omega), z_eq h (show zr 69 by omega)]
        split
        · rfl
        · split
          · rfl
          · split <;> rfl
      rw [e]; rfl
def z_iret (rs : Nat) (st : List zV) : Option zO := match st with
  | [.inl v] => match rs with
    | 0 => zoR True (some (zI v))
    | 1 => zoR (v = 0 ∨ v = 1) (some (zI v))
    | 2 => zoR (0 ≤ v ∧ v ≤ 65535) (some (zI v))
    | _ => none
  | _ => none
theorem z_iret_ok (rs : Nat) (st : List zV) : z_ok (z_iret rs st) (xm_iret rs (z_st st)) := by
  rcases st with _ | ⟨x | x | x, _ | ⟨y, r⟩⟩ <;> first | exact trivial | skip
  match rs with
  | 0 => exact fun _ => rfl
  | 1 => intro h; show oR (xm_isb (zi x)) _ = _; rw [z_isb h]; rfl
  | 2 => intro h; show oR (xm_nar (zi x) == zi x) _ = _; rw [z_nar h]; simp; rfl
  | n + 3 => exact trivial
def z_lret (st : List zV) : Option zO := match st with
  | [.inr (.inl v)] => zoR True (some (zJ v))
  | _ => none
def z_aret (st : List zV) : Option zO := match st with
  | [.inr (.inr (k, j))] => zoR True (some (zR k j))
  | _ => none
def z_vret (st : List zV) : Option zO := match st with
  | [] => zoR True none
  | _ => none
def z_thr (x : Nat) (st : List zV) (cl : Bool) : Option zO := match st, cl with
  | [], true => zoT x
  | _, _ => none
theorem z_lret_ok (st : List zV) : z_ok (z_lret st) (xm_lret (z_st st)) := by
  rcases st with _ | ⟨x | x | x, _ | ⟨y, r⟩⟩ <;> first | exact trivial | exact fun _ => rfl
theorem z_aret_ok (st : List zV) : z_ok (z_aret st) (xm_aret (z_st st)) := by
  rcases st with _ | ⟨x | x | x, _ | ⟨y, r⟩⟩ <;> first | exact trivial | exact fun _ => rfl
theorem z_vret_ok (st : List zV) : z_ok (z_vret st) (xm_vret (z_st st)) := by
  rcases st with _ | ⟨x, r⟩ <;> first | exact trivial | exact fun _ => rfl
theorem z_thr_ok (x : Nat) (st : List zV) (cl : Bool) : z_ok (z_thr x st cl) (xm_thr x (z_st st) cl) := by
  rcases st with _ | ⟨y, r⟩ <;> cases cl <;> first | exact trivial | rfl
