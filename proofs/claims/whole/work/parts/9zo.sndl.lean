-- Soundness for the law's own frame: it begins before its objects are made (own work)
abbrev kad0 (ad : Nat → Nat → Nat) : Nat → Nat → Nat := fun k j => if k < 32 then 0 else ad k j
def kG (D : va_G) (cs : Nat → ClassId) (ad : Nat → Nat → Nat) (A : Nat → Prop) (H0 : Heap) (N : Nat) (xs : Nat → Int32) (k : Nat) (s : State) : Prop := xGG D cs ad A H0 N xs s ∨ (k = 145 ∧ xGG D cs (kad0 ad) A H0 N xs s)
def kr_b (r : xm_Row) : Bool := (match r.2.1 with
  | .invokevirtual _ => decide (r.2.2.2.1 < 200)
  | .new _ => false
  | _ => true)
theorem kr_all : ((xm_rw 145).all fun q => q.all kr_b) = true := by decide +kernel
theorem kr_row {pc : Nat} {r : xm_Row} (h : xm_row 145 pc = some r) : kr_b r = true := by
  have h1 := xm_fd_spec h
  have h2 := xm_ix_all (d := []) (p := fun q : List xm_Row => q.all kr_b) rfl kr_all (pc / 16)
  exact List.all_eq_true.mp h2 r h1.1
section KSN
variable {p : Program} {l : Launch} {e : Env} {D : va_G} {cs : Nat → ClassId} {ad : Nat → Nat → Nat} {A : Nat → Prop} {H0 : Heap} {N : Nat} {xs : Nat → Int32}
theorem kG.warm (k k1 : Nat) (s U : State) (h : kG D cs ad A H0 N xs k s) (hW : s.WarmedH U.vm) (hS : va_S A H0 U.heap []) (hq : ∀ q ∈ xprs, ad q.1 q.2 < U.heap.size) : kG D cs ad A H0 N xs k1 U := by
  rcases h with h | ⟨-, h⟩
  · exact Or.inl (xGG.warm s U h hW hS hq)
  · have h1 := h.1
    exact Or.inl ⟨⟨fun w hw hg => xgw_warm hg hW (h1.1 w hw hg), h1.2.1.moved hW.alike, h1.2.2.1.moved hW.alike, hS, hq, h1.2.2.2.2.2.1.warm hW, h1.2.2.2.2.2.2.1.moved hW.alike, h1.2.2.2.2.2.2.2.moved hW.alike⟩, h.2.warm hW⟩
theorem xsoundK (hexec : p.tables.exec = Jvm.exec) (htr : e.platform.stackTraces = false) (hbl : ad 32 0 < H0.size) (hbA : ¬ A (ad 32 0)) (n k : Nat) (st : xm_S) (r : xm_Re) (h : xm_run n k st = some r) (R : Room) (s : State) (m : MethodId) (args : Array Value) (below : List Frame) (meth : Method) (c : Code) (H : Heap) (locs : List Loc) (cells slots : Nat) (ls : Array Slot) (hfx : xFix k s m meth c) (hG : kG D cs ad A H0 N xs k s) (hfr : xm_fr k ≤ R.frames) (hlo : xm_lo k ≤ R.locals) (hc : cells + r.2.2.2 ≤ R.cells) (hs : slots + 6 * r.2.2.2 ≤ R.slots)
    (hR : xRel D xm_cl cs ad A H0 N xs (xm_ml k) st ls H locs) : W p l e R s m args below meth c H locs cells slots (xEnd D xm_cl cs ad A H0 N xs r s below cells slots) (F0 m st.1 ls (st.2.2.1.map (xv ad))) := by
  refine xsndK (G := kG D cs ad A H0 N xs) hexec kG.warm (fun k s h => ?_) (fun k s h => ?_) (fun k s h => ?_) hbl hbA xm_hrow (fun k pc r s h1 h2 => ?_) xm_hnh ?_ ?_ ?_ n k st r h R s m args below meth c H locs cells slots ls hfx hG hfr hlo hc hs hR
  · rcases h with h | ⟨-, h⟩ <;> exact h.1.2.1
  · rcases h with h | ⟨-, h⟩ <;> exact xm_cf h.1
  · rcases h with h | ⟨-, h⟩
    · exact h.1.2.2.1
    · exact h.1.2.2.1
  · rcases h2 with h2 | ⟨-, h2⟩
    · exact xm_hlks k pc r s h1 h2.1
    · have h3 := xm_hlks k pc r s h1 h2.1
      exact ⟨h3.1, h3.2⟩
  · intro k pc v r R s m args below meth c H locs cells slots ls L st σ c0 t Q h1 h2 h3 h4 h5
    rcases h5 with h5 | ⟨rfl, h5⟩
    · exact xm_hstr hexec k pc v r R s m args below meth c H locs cells slots ls L st σ c0 t Q h1 h2 h3 h4 h5
    · have h6 := kr_row h1
      unfold kr_b at h6
      rw [h2] at h6
      simp only [decide_eq_true_eq] at h6
      exact absurd h6 (by omega)
  · intro k pc v r R s m args below meth c H cells slots ls L σ h1 h2 h4 h5
    rcases h5 with h5 | ⟨rfl, h5⟩
    · exact xm_hthr hexec htr k pc v r R s m args below meth c H cells slots ls L σ h1 h2 h4 h5
    · have h6 := kr_row h1
      unfold kr_b at h6
      rw [h2] at h6
      cases h6
  · intro k pc x d R s m args below meth c T locs cells slots ls stk σ c1 a h1 h4 h5
    rcases h5 with h5 | ⟨rfl, h5⟩
    · exact xm_hcat hexec k pc x d R s m args below meth c T locs cells slots ls stk σ c1 a h1 h4 h5
    · cases h1
end KSN
