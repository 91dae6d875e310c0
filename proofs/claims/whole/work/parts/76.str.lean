-- charAt and indexOf in the machine are the JDK's (own work)
def xm_stb (k : Nat) (r : xm_Row) : Bool := match r.2.1 with
  | .invokevirtual v => bif Nat.ble 200 r.2.2.2.1 then (decide ((xm_mn k).cls = "LayerFeeder" ∧ v = 241 ∧ r.2.2.2.1 = 201) || decide ((xm_mn k).cls = "LayerFeeder$Command" ∧ v = 48 ∧ r.2.2.2.1 = 202)) && decide (6 ≤ xm_fr k ∧ 100 ≤ xm_lo k) else true
  | _ => true
theorem xm_stb_ok : ((List.range 146).all fun k => (xm_rw k).all fun c => c.all (xm_stb k)) = true := by decide +kernel
section XSt
variable {p : Program} {l : Launch} {e : Env} {D : va_G} {cs : Nat → ClassId} {ad : Nat → Nat → Nat} {A : Nat → Prop} {H0 : Heap} {N : Nat} {xs : Nat → Int32}
theorem xok33 {j : Nat} (h : xok 33 j) : j = 0 := by
  rcases h with h | h | h
  · have := xprs_lt h
    omega
  · cases h
  · cases h; rfl
theorem xm_hstr (hexec : p.tables.exec = Jvm.exec) (k pc v : Nat) (r : xm_Row) (R : Room) (s : State) (m : MethodId) (args : Array Value) (below : List Frame) (meth : Method) (c : Code) (H : Heap) (locs : List Loc) (cells slots : Nat) (ls : Array Slot) (L : xm_L) (st : List xm_V) (σ : xm_M) (c0 : Bool) (t : xm_S) (Q : State → Prop) (hr : xm_row k pc = some r) (hv : r.2.1 = .invokevirtual v) (ha : 200 ≤ r.2.2.2.1) (hfx : xFix k s m meth c) (hG : xGG D cs ad A H0 N xs s) (hfr : xm_fr k ≤ R.frames) (hlo : xm_lo k ≤ R.locals) (hc : cells ≤ R.cells) (hs : slots ≤ R.slots)
    (hR : xRel D xm_cl cs ad A H0 N xs (xm_ml k) (pc, L, st, σ, c0) ls H locs) (hx : xm_gd (xm_str r.2.2.2.1 (pc + 3) L st σ c0) = some t) (kk : xRel D xm_cl cs ad A H0 N xs (xm_ml k) t ls H locs → W p l e R s m args below meth c H locs cells slots Q (F0 m t.1 ls (t.2.2.1.map (xv ad)))) : W p l e R s m args below meth c H locs cells slots Q (F0 m pc ls (st.map (xv ad))) := by
  have hk := List.all_eq_true.mp xm_stb_ok k (List.mem_range.mpr (xm_row_lt hr))
  obtain ⟨h1, h2⟩ := xm_fd_spec hr
  have h3 := List.all_eq_true.mp (xm_ix_all (d := []) (p := fun c => c.all (xm_stb k)) rfl hk (pc / 16)) r h1
  have hd := (xm_hrow k pc r hr).1
  have hck := (xm_hrow k pc r hr).2.1
  obtain ⟨q0, i, n, a, b, cc, d⟩ := r
  dsimp only at hv h2 h3 hd hck ha hx
  subst h2 hv
  have hn : n = 3 := by simpa [xm_ck] using hck
  subst hn
  have ha' : Nat.ble 200 a = true := Nat.ble_eq_true_of_le ha
  simp only [xm_stb, ha', cond_true, Bool.and_eq_true, Bool.or_eq_true, decide_eq_true_eq] at h3
  obtain ⟨h3, h6, h100⟩ := h3
  have hM := hR.2.2.2.1
  have hS : va_S A H0 H [] := ⟨hM.2.2.1.1, hM.2.2.1.2.1, fun _ h => by cases h⟩
  have hq : ∀ q ∈ xprs, ad q.1 q.2 < H.size := fun q hq => by
    obtain ⟨i, -, hi⟩ := xw_get (cs := cs) (ad := ad) (σ := σ) (k := q.1) (j := q.2) hq
    exact (hM.1 i _ hi).lt
  have hrec : ∃ cell : Cell, H[ad 33 0]? = some cell ∧ cell.vm.isStatics = false ∧ s.vm.findClass "java/lang/String" = some cell.cls := by
    obtain ⟨t1, -, -, -⟩ := hG.1.2.2.2.2.2.2.2.1 0 (by decide)
    obtain ⟨cell, r1, r2, r3, -⟩ := t1.kept hM.2.2.1.2.1
    exact ⟨cell, r1, r2, r3⟩
  unfold xm_str at hx
  split at hx
  · rename_i i k0 j rs
    cases hz : Nat.beq k0 33 && Nat.ble (xm_wt rs) 8 with
    | false => rw [hz] at hx; cases hx
    | true =>
      rw [hz] at hx
      simp only [Bool.and_eq_true] at hz
      have e33 := Nat.eq_of_beq_eq_true hz.1
      subst e33
      have hw8 := Nat.le_of_ble_eq_true hz.2
      have hwl := (xm_wt_len ad rs).2
      have g2 := (xoks_cons _ _).mp hR.2.2.1
      have g3 := (xoks_cons _ _).mp g2.2
      have ej := xok33 g3.1
      subst ej
      simp only [cond_true] at hx
      rcases h3 with ⟨e1, e2, e3⟩ | ⟨e1, e2, e3⟩
      · subst e2 e3
        change xm_gd (oC (xm_in i 3) (q0 + 3, L, xI (xm_chr i) :: rs, σ, c0)) = some t at hx
        simp only [xm_gd] at hx
        cases hin : xm_in i 3 with
        | false => rw [hin] at hx; cases hx
        | true =>
          rw [hin] at hx
          obtain rfl := Option.some.inj hx
          have hown : s.vm.findClass "LayerFeeder" = some m.cls := by rw [← e1]; exact hfx.1
          exact xpc_v hexec (jc_C hexec hin) hfx.2.1 (hfx.2.2.1.trans hR.1.1.symm) hown hG (xm_is_use jl_LayerFeeder_241 hG.1) (xm_is_use js_C.1 hG.1) (xm_is_use js_C.2 hG.1) (xm_is_use jw_C hG.1) jp_C (by decide) hrec (show (parseMethodDescriptor jy_C.desc).map (fun d => d.parameters.length) = some 1 by decide +kernel) (by omega) (by rw [hwl]; omega) hc hs hS hq hd (rest := rs.map (xv ad)) rfl (kk ⟨hR.1, hR.2.1, g3.2, hR.2.2.2⟩)
      · subst e2 e3
        change xm_gd (oN (q0 + 3, L, xI (xm_idx i) :: rs, σ, c0)) = some t at hx
        obtain rfl := Option.some.inj hx
        have hown : s.vm.findClass "LayerFeeder$Command" = some m.cls := by rw [← e1]; exact hfx.1
        exact xpc_v hexec (jc_I hexec i) hfx.2.1 (hfx.2.2.1.trans hR.1.1.symm) hown hG (xm_is_use jl_LayerFeeder_Command_48 hG.1) (xm_is_use js_I.1 hG.1) (xm_is_use js_I.2 hG.1) (xm_is_use jw_I hG.1) jp_I (by decide) hrec (show (parseMethodDescriptor jy_I.desc).map (fun d => d.parameters.length) = some 1 by decide +kernel) (by omega) (by rw [hwl]; omega) hc hs hS hq hd (rest := rs.map (xv ad)) rfl (kk ⟨hR.1, hR.2.1, g3.2, hR.2.2.2⟩)
  · cases hx
-- soundness, with all that it stands on
theorem xsound (hexec : p.tables.exec = Jvm.exec) (htr : e.platform.stackTraces = false) (hbl : ad 32 0 < H0.size) (hbA : ¬ A (ad 32 0)) (n k : Nat) (st : xm_S) (r : xm_Re) (h : xm_run n k st = some r) (R : Room) (s : State) (m : MethodId) (args : Array Value) (below : List Frame) (meth : Method) (c : Code) (H : Heap) (locs : List Loc) (cells slots : Nat) (ls : Array Slot) (hfx : xFix k s m meth c) (hG : xGG D cs ad A H0 N xs s) (hfr : xm_fr k ≤ R.frames) (hlo : xm_lo k ≤ R.locals) (hc : cells + r.2.2.2 ≤ R.cells) (hs : slots + 6 * r.2.2.2 ≤ R.slots)
    (hR : xRel D xm_cl cs ad A H0 N xs (xm_ml k) st ls H locs) : W p l e R s m args below meth c H locs cells slots (xEnd D xm_cl cs ad A H0 N xs r s below cells slots) (F0 m st.1 ls (st.2.2.1.map (xv ad))) :=
  xsnd hexec (fun s U h => xGG.warm s U h) (fun s h => h.1.2.1) (fun s h => xm_cf h.1) (fun s h => h.1.2.2.1) hbl hbA xm_hrow (fun k pc r s h1 h2 => xm_hlks k pc r s h1 h2.1) xm_hnh (xm_hstr hexec) (xm_hthr hexec htr) (xm_hcat hexec) n k st r h R s m args below meth c H locs cells slots ls hfx hG hfr hlo hc hs hR
end XSt
