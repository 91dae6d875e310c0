-- fields and arrays (own work)
def xm_ty : Nat → FieldType
  | 0 => .int
  | 1 => .long
  | 2 => .boolean
  | _ => .int
-- the link of a field instruction
def xfk (own : String) (cl : List vw_C) (idx a b : Nat) (s : State) : Prop := ∃ (C : String) (T : u_T), cl[xm_nth xm_cis b]? = some (C, T, (xm_nthL xm_ftt b).length) ∧ (va_Nw (.fieldLink own idx (T a).1 (T a).2.1 (T a).2.2.1) s ∨ ∃ host : String, va_Nw (.fieldLinkNest own idx (T a).1 (T a).2.1 (T a).2.2.1 host) s)
-- ints, longs and truth values among the fields can be written
def xcf (cl : List vw_C) (s : State) : Prop := ∀ (b : Nat) (C : String) (T : u_T) (n : Nat), cl[xm_nth xm_cis b]? = some (C, T, n) → xm_nth xm_ak b = 0 → b < 19 →
  (∀ w ∈ u_ws C T n, ∀ args : Array Value, w.before args s = true) ∧ (∃ ty0 : Nat → FieldType, ∀ k, k < n → parseFieldDescriptor (T k).2.2.1 = some (ty0 k)) ∧ (∀ a, a < n → ∀ b, b < n → a ≠ b → (T a).2.1 ≠ (T b).2.1)
  ∧ n = (xm_nthL xm_ftt b).length ∧ ∀ k t, (xm_nthL xm_ftt b)[k]? = some t → t < 3 → parseFieldDescriptor (T k).2.2.1 = some (xm_ty t)
theorem xm_isb_spec {v : Int32} (h : xm_isb v = true) : v = 0 ∨ v = 1 := by simpa [xm_isb] using h
theorem xm_in_spec {i : Int32} {n : Nat} (h : xm_in i n = true) : vp_in i n := by
  unfold vp_in
  intro q
  simp only [xm_in, Bool.not_eq_true', Bool.or_eq_false_iff, decide_eq_false_iff_not] at h
  rcases q with q | q
  · exact h.1 q
  · have h2 := h.2
    rw [Nat.ble_eq_true_of_le q] at h2
    cases h2
theorem xprs_lt {k j : Nat} (h : (k, j) ∈ xprs) : k < 32 := by
  have : ∀ q ∈ xprs, q.1 < 32 := by decide
  exact this _ h
theorem xprs_up : ∀ q ∈ xprs, ∀ t ∈ xm_nthL xm_ftt q.1, 3 ≤ t → (t - 3, q.2) ∈ xprs := by decide
section X2
variable {p : Program} {l : Launch} {e : Env} {R : Room} {s : State} {m : MethodId} {args : Array Value} {below : List Frame} {meth : Method} {c : Code} {H : Heap} {locs : List Loc} {cells slots : Nat} {Q : State → Prop}
variable {D : va_G} {cl : List vw_C} {cs : Nat → ClassId} {ad : Nat → Nat → Nat} {A : Nat → Prop} {H0 : Heap} {N : Nat} {xs : Nat → Int32} {nL pc : Nat} {ls : Array Slot} {L : xm_L} {st : List xm_V} {σ : xm_M} {c0 : Bool} {t : xm_S} {cc : ByteArray} {own : String} {idx a b : Nat} {tys : List (ClassId × FieldType)}
theorem xs_get (hexec : p.tables.exec = Jvm.exec) (hb : c.code = cc) (hown : s.vm.findClass own = some m.cls) (hK : va_K D cl tys s) (hcf : xcf cl s) (hfk : xfk own cl idx a b s) (hao : xm_nth xm_ak b = 0) (hal : a < (xm_nthL xm_ftt b).length) (hd : decode cc pc = .ok (.getfield idx, 3))
    (hx : xm_gd (xm_get a b (pc + 3) (xm_nthL xm_ftt b) L st σ c0) = some t) (hR : xRel D cl cs ad A H0 N xs nL (pc, L, st, σ, c0) ls H locs)
    (kk : ∀ (ls' : Array Slot) (H' : Heap) (locs' : List Loc), xRel D cl cs ad A H0 N xs nL t ls' H' locs' → W p l e R s m args below meth c H' locs' cells slots Q (F0 m t.1 ls' (t.2.2.1.map (xv ad)))) :
    W p l e R s m args below meth c H locs cells slots Q (F0 m pc ls (st.map (xv ad))) := by
  unfold xm_get at hx
  split at hx
  · rename_i k j r
    cases hkb : Nat.beq k b with
    | false => rw [hkb] at hx; cases hx
    | true =>
      have e1 : k = b := Nat.eq_of_beq_eq_true hkb
      subst e1
      rw [hkb] at hx
      simp only [cond_true] at hx
      obtain ⟨C, T, hc, hlk⟩ := hfk
      have h3 := (xoks_cons _ _).mp hR.2.2.1
      have hpr : (k, j) ∈ xprs := by
        rcases h3.1 with h | h | h
        · exact h
        · cases h
          cases hao
        · cases h
          cases hao
      obtain ⟨q0, -, hq0⟩ := xw_get (cs := cs) (ad := ad) (σ := σ) hpr
      rw [xe_obj hao] at hq0
      obtain ⟨hw, -, -, -, -⟩ := hcf k C T _ hc hao (Nat.lt_of_not_le fun hge => by
        have hnil : (xm_nthL xm_ftt k).length = 0 := by
          have hz := xprs_lt hpr
          have : ∀ z, z < 32 → 19 ≤ z → (xm_nthL xm_ftt z).length = 0 := by decide
          exact this k hz hge
        omega)
      have hft := xm_nth_get hal
      have hv : (xfl ad σ k j 0 (xm_nthL xm_ftt k))[a]? = some (xfv ad σ k j a (xm_nth (xm_nthL xm_ftt k) a)) := by
        rw [xfl_get, hft]; simp
      have row : ∀ r : List Value, W p l e R s m args below meth c H locs cells slots Q (F0 m (pc + 3) ls (xfv ad σ k j a (xm_nth (xm_nthL xm_ftt k) a) :: r)) → W p l e R s m args below meth c H locs cells slots Q (F0 m pc ls (.ref (ad k j) :: r)) := by
        intro r h
        rcases hlk with hlk | ⟨host, hlk⟩
        · exact va_get hexec hb (fun w h => hw w h args) (fun w h => h) hown hK hR.2.2.2.1.1 q0 hq0 hc a hal (va_Nw.use rfl hlk) (fun x h => h) hv hd h
        · exact va_getN hexec hb (fun w h => hw w h args) (fun w h => h) hown hK hR.2.2.2.1.1 q0 hq0 hc a hal (va_Nw.use rfl hlk) (fun x h => h) hv hd h
      have hmem : xm_nth (xm_nthL xm_ftt k) a ∈ xm_nthL xm_ftt k := List.mem_of_getElem? hft
      refine row _ ?_
      generalize xm_nth (xm_nthL xm_ftt k) a = ty at hx hmem ⊢
      rcases ty with _ | _ | _ | ty
      · cases hx
        exact kk ls H locs ⟨hR.1, hR.2.1, h3.2, hR.2.2.2⟩
      · cases hx
        exact kk ls H locs ⟨hR.1, hR.2.1, h3.2, hR.2.2.2⟩
      · cases hx
        exact kk ls H locs ⟨hR.1, hR.2.1, h3.2, hR.2.2.2⟩
      · cases hx
        exact kk ls H locs ⟨hR.1, hR.2.1, (xoks_cons _ _).mpr ⟨Or.inl (xprs_up (k, j) hpr (ty + 3) hmem (by omega)), h3.2⟩, hR.2.2.2⟩
  · cases hx
theorem xMem_set {σ' : xm_M} {i k j : Nat} {e1 : va_E} {H1 : Heap} {locs1 : List Loc} (hM : xMem D cl cs ad A H0 N xs σ H locs) (hi : xprs[i]? = some (k, j)) (he : e1 = xe cs ad σ' (k, j)) (ho : ∀ q : Nat × Nat, q ≠ (k, j) → xe cs ad σ' q = xe cs ad σ q) (hn : σ'.2.2 = σ.2.2) (h32 : ∀ n, σ'.1 32 0 n = σ.1 32 0 n)
    (hP : va_P D cl ((xw cs ad σ).set i (ad k j, e1)) H1) (hD : va_D A ((xw cs ad σ).set i (ad k j, e1))) (hS : va_S A H0 H1 locs1) : xMem D cl cs ad A H0 N xs σ' H1 locs1 := by
  subst he
  rw [xw_set hi ho] at hP hD
  exact ⟨hP, hD, hS, hn.trans hM.2.2.2.1, fun n hlt => (h32 n).trans (hM.2.2.2.2 n hlt)⟩
theorem xs_put (hexec : p.tables.exec = Jvm.exec) (hb : c.code = cc) (hown : s.vm.findClass own = some m.cls) (hK : va_K D cl tys s) (hcf : xcf cl s) (hfk : xfk own cl idx a b s) (hfin : ∀ (C : String) (T : u_T) (n : Nat), cl[xm_nth xm_cis b]? = some (C, T, n) → (T a).2.2.2 = false) (hao : xm_nth xm_ak b = 0) (hal : a < (xm_nthL xm_ftt b).length) (hd : decode cc pc = .ok (.putfield idx, 3))
    (hx : xm_gd (xm_put a b (pc + 3) (xm_nthL xm_ftt b) L st σ) = some t) (hR : xRel D cl cs ad A H0 N xs nL (pc, L, st, σ, c0) ls H locs)
    (kk : ∀ (ls' : Array Slot) (H' : Heap) (locs' : List Loc), xRel D cl cs ad A H0 N xs nL t ls' H' locs' → W p l e R s m args below meth c H' locs' cells slots Q (F0 m t.1 ls' (t.2.2.1.map (xv ad)))) :
    W p l e R s m args below meth c H locs cells slots Q (F0 m pc ls (st.map (xv ad))) := by
  unfold xm_put at hx
  split at hx
  · rename_i v k j r
    cases hkb : Nat.beq k b with
    | false => rw [hkb] at hx; cases hx
    | true =>
      have e1 : k = b := Nat.eq_of_beq_eq_true hkb
      subst e1
      rw [hkb] at hx
      simp only [cond_true] at hx
      obtain ⟨C, T, hc, hlk⟩ := hfk
      have h2 := (xoks_cons _ _).mp hR.2.2.1
      have h3 := (xoks_cons _ _).mp h2.2
      have hpr : (k, j) ∈ xprs := by
        rcases h3.1 with h | h | h
        · exact h
        · cases h
          cases hao
        · cases h
          cases hao
      obtain ⟨q0, hi0, hq0⟩ := xw_get (cs := cs) (ad := ad) (σ := σ) hpr
      rw [xe_obj hao] at hq0
      have hk19 : k < 19 := Nat.lt_of_not_le fun hge => by
        have hnil : (xm_nthL xm_ftt k).length = 0 := by
          have hz := xprs_lt hpr
          have : ∀ z, z < 32 → 19 ≤ z → (xm_nthL xm_ftt z).length = 0 := by decide
          exact this k hz hge
        omega
      obtain ⟨hw, ⟨ty0, hty⟩, hnm, -, hds⟩ := hcf k C T _ hc hao hk19
      have hft := xm_nth_get hal
      have hl : a < (xfl ad σ k j 0 (xm_nthL xm_ftt k)).length := by rw [xfl_len]; exact hal
      have hne32 : k ≠ 32 := by omega
      have row : ∀ (u : Value) (ty : FieldType) (r : List Value), parseFieldDescriptor (T a).2.2.1 = some ty → narrow ty u = u → fits ty u = true →
          (∀ (H1 : Heap) (locs1 : List Loc), va_P D cl ((xw cs ad σ).set q0 (ad k j, .inr (xm_nth xm_cis k, (xfl ad σ k j 0 (xm_nthL xm_ftt k)).set a u))) H1 → va_D A ((xw cs ad σ).set q0 (ad k j, .inr (xm_nth xm_cis k, (xfl ad σ k j 0 (xm_nthL xm_ftt k)).set a u))) → va_S A H0 H1 locs1 → W p l e R s m args below meth c H1 locs1 cells slots Q (F0 m (pc + 3) ls r)) →
          W p l e R s m args below meth c H locs cells slots Q (F0 m pc ls (u :: .ref (ad k j) :: r)) := by
        intro u ty r hd1 hn1 hf1 h
        rcases hlk with hlk | ⟨host, hlk⟩
        · exact va_put hexec hb (fun w h => hw w h args) (fun w h => h) ty0 hty hnm hown hK hR.2.2.2.1.1 hR.2.2.2.1.2.1 hR.2.2.2.1.2.2.1 q0 hq0 hc a hal (va_Nw.use rfl hlk) (fun x h => h) (hfin C T _ hc) hd1 hn1 hf1 hl hd h
        · exact va_putN hexec hb (fun w h => hw w h args) (fun w h => h) ty0 hty hnm hown hK hR.2.2.2.1.1 hR.2.2.2.1.2.1 hR.2.2.2.1.2.2.1 q0 hq0 hc a hal (va_Nw.use rfl hlk) (fun x h => h) (hfin C T _ hc) hd1 hn1 hf1 hl hd h
      have hd3 := hds a _ hft
      generalize htt : xm_nth (xm_nthL xm_ftt k) a = ty at hx hft hd3
      rcases ty with _ | _ | _ | ty
      · rcases v with x | x | q
        · cases hx
          refine row (.int x) .int _ (hd3 (by omega)) rfl rfl fun H1 locs1 hP hD hS => kk ls H1 locs1 ⟨hR.1, hR.2.1, h3.2, xMem_set hR.2.2.2.1 hi0 ?_ xe_w rfl (fun n => xm_w_ne _ _ (fun z => hne32 z.1.symm)) hP hD hS, fun z => by cases z⟩
          rw [xe_obj hao, xfl_w x (Or.inl hft)]
        · cases hx
        · cases hx
      · rcases v with x | x | q
        · cases hx
        · cases hx
          refine row (.long x) .long _ (hd3 (by omega)) rfl rfl fun H1 locs1 hP hD hS => kk ls H1 locs1 ⟨hR.1, hR.2.1, h3.2, xMem_set hR.2.2.2.1 hi0 ?_ xe_wl rfl (fun n => rfl) hP hD hS, fun z => by cases z⟩
          rw [xe_obj hao, xfl_wl x hft]
        · cases hx
      · rcases v with x | x | q
        · simp only [xm_pf, xm_gd] at hx
          cases hb1 : xm_isb x with
          | false => rw [hb1] at hx; cases hx
          | true =>
            rw [hb1] at hx
            cases hx
            refine row (.int x) .boolean _ (hd3 (by omega)) (by rcases xm_isb_spec hb1 with h | h <;> (subst h; rfl)) hb1 fun H1 locs1 hP hD hS => kk ls H1 locs1 ⟨hR.1, hR.2.1, h3.2, xMem_set hR.2.2.2.1 hi0 ?_ xe_w rfl (fun n => xm_w_ne _ _ (fun z => hne32 z.1.symm)) hP hD hS, fun z => by cases z⟩
            rw [xe_obj hao, xfl_w x (Or.inr hft)]
        · cases hx
        · cases hx
      · rcases v with x | x | q <;> cases hx
  · cases hx
end X2
