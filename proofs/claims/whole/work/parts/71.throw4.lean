-- the same for the one that passes on by its own entry (own work)
def xm_oab3 (ic x ix : Nat) (bx : ByteArray) : Bool := (xatoms ic (xm_xn x) ix bx).all fun w => (decide (w ∈ lw_tbl) && goodWord w) || (decide (w = .castable (xm_xn x) (xm_xn x)) || xdcl.any fun y => decide (w = .declares y)) || (decide (w = .laysStatic "java/lang/Throwable" "UNASSIGNED_STACK" "[Ljava/lang/StackTraceElement;") || decide (w = .laysStatic "java/lang/Throwable" "SUPPRESSED_SENTINEL" "Ljava/util/List;")) || (decide (w = .isRef (.static "java/lang/Throwable" "UNASSIGNED_STACK" "[Ljava/lang/StackTraceElement;")) || decide (w = .isRef (.static "java/lang/Throwable" "SUPPRESSED_SENTINEL" "Ljava/util/List;")))
theorem xm_oa3 : xm_oab3 175 3 13 prog_22_method_4_code = true := by decide +kernel
section XT4
variable {p : Program} {l : Launch} {e : Env} {R : Room} {s : State} {m : MethodId} {args : Array Value} {below : List Frame} {meth : Method} {c : Code} {H : Heap} {cells slots : Nat}
variable {D : va_G} {cs : Nat → ClassId} {ad : Nat → Nat → Nat} {A : Nat → Prop} {H0 : Heap} {N : Nat} {xs : Nat → Int32} {k pc x idx1 idx2 ic : Nat} {tx : String} {ls : Array Slot} {L : xm_L} {σ : xm_M}
theorem xown3 {ix : Nat} {bx : ByteArray} (hGG : xGG D cs ad A H0 N xs s) (hx : x < 4) (h : xm_oab3 ic x ix bx = true) : ∀ w ∈ xatoms ic (xm_xn x) ix bx, w.before args s = true := by
  intro w hw
  have hG := hGG.1
  have h1 := List.all_eq_true.mp h w hw
  simp only [Bool.or_eq_true, Bool.and_eq_true, decide_eq_true_eq] at h1
  have hk : ∀ a : Nat, a < H0.size → ¬ A a → s.heap[a]? = H0[a]? := hG.2.2.2.1.2.1
  rcases h1 with ((⟨h1, h2⟩ | rfl | h1) | rfl | rfl) | rfl | rfl
  · exact word_at (State.WarmedH.refl s) (good_of_word h2) (hG.1 w h1 (by unfold xgw; rw [h2]; rfl))
  · obtain ⟨c1, e1, e3⟩ := hGG.2.2.2.2.2.1 x hx
    simp [Cond.before, Cond.holds, Cond.value, e1, e3]
  · obtain ⟨y, hy, e1⟩ := List.any_eq_true.mp h1
    simp only [decide_eq_true_eq] at e1
    rw [e1]
    exact va_Nw.use rfl (hGG.2.2.2.2.2.2 y hy)
  · exact (hGG.2.1.1.kept hk).use
  · exact (hGG.2.1.2.kept hk).use
  · obtain ⟨v, h3, h4⟩ := hG.2.2.2.2.2.2.1.1
    exact xrefZ h3 (h4.kept hk)
  · obtain ⟨v, h3, h4⟩ := hG.2.2.2.2.2.2.1.2.1
    exact xrefZ h3 (h4.kept hk)
theorem xthr3_of (hexec : p.tables.exec = Jvm.exec) (htr : e.platform.stackTraces = false) (hkc : (xm_mn k).cls = "LayerFeeder") (hd1 : decode (xm_code k) pc = .ok (.new idx1, 3)) (hd2 : decode (xm_code k) (pc + 3) = .ok (.dup, 1)) (hd3 : decode (xm_code k) (pc + 3 + 1) = .ok (.ldc idx2, 2)) (hd4 : decode (xm_code k) (pc + 3 + 1 + 2) = .ok (.invokespecial ic, 3)) (hd5 : decode (xm_code k) (pc + 3 + 1 + 2 + 3) = .ok (.athrow, 1))
    (hcl : va_Nw (.classLink "LayerFeeder" idx1 (xm_xn x)) s) (hins : va_Nw (.instantiable (xm_xn x) 6) s) (hini : va_Nw (.initialized (xm_xn x)) s) (hmsg : (idx2, tx) ∈ xm_msgs) (ix : Nat) (bx : ByteArray) (hb0 : decode bx 0 = .ok (.aload_n 0, 1)) (hb1 : decode bx 1 = .ok (.aload_n 1, 1)) (hb2 : decode bx 2 = .ok (.invokespecial ix, 3)) (hb5 : decode bx 5 = .ok (.return_, 1)) (hoa : xm_oab3 ic x ix bx = true) (hfit : Bundle.fit (xm_xn x) = true) (hfrk : 6 ≤ xm_fr k) (hlok : 90 ≤ xm_lo k) (het : xm_et k = [])
    (hx4 : x < 4) (hfx : xFix k s m meth c) (hGG : xGG D cs ad A H0 N xs s) (hfr : xm_fr k ≤ R.frames) (hlo : xm_lo k ≤ R.locals) (hc : cells + 1 ≤ R.cells) (hs : slots + 6 ≤ R.slots) (hR : xRel D xm_cl cs ad A H0 N xs (xm_ml k) (pc, L, [], σ, true) ls H []) :
    W p l e R s m args below meth c H [] cells slots (xEnd D xm_cl cs ad A H0 N xs (.inr x, σ, true, 1) s below cells slots) (F0 m pc ls []) := by
  have hG := hGG.1
  have hown' : s.vm.findClass "LayerFeeder" = some m.cls := by rw [← hkc]; exact hfx.1
  intro T0 hT0 X0
  have hsz : s.heap.size ≤ H.size := by rw [← hT0]; exact X0.same.2.1
  have hH : ∀ q : Nat, q < s.heap.size → H[q]? = s.heap[q]? := fun q hq => by
    rw [← hT0]
    exact xsame0 X0.same hq
  have hnil : c.exceptionTable.toList = [] := List.map_eq_nil_iff.mp (hfx.2.2.2.2.2.trans het)
  revert T0
  intro T0 hT0 X0
  refine (?_ : W p l e R s m args below meth c H [] cells slots (xEnd D xm_cl cs ad A H0 N xs (.inr x, σ, true, 1) s below cells slots) (F0 m pc ls [])) T0 hT0 X0
  refine W.newc hexec hfx.2.1 (own := "LayerFeeder") hown' (va_Nw.use rfl hcl) (va_Nw.use rfl hins) (va_Nw.use rfl hini) (g := F0 m pc ls []) rfl hd1 hc hs fun cC kC f1 f2 f3 f4 => ?_
  refine lv_dup (ls := ls) (rest := []) hexec hfx.2.1 hd2 rfl ?_
  obtain ⟨q, hq⟩ := hG.2.2.2.2.2.1.2.2 _ hmsg
  refine va_ldcS (ls := ls) hexec hfx.2.1 hown' hq hd3 ?_
  intro T hT X
  obtain ⟨U, g1, g2, g3, g4, g5, ce, g6, g7, g8⟩ := xctorT X hexec htr (cls := xm_xn x) (ic := ic) hown' hfit hb0 hb1 hb2 hb5 (xown3 hGG hx4 hoa) rfl (a := H.size) (cX := cC) (kX := kC) f1 f2 (by rw [hT]; simp) hsz (msg := .ref q) rfl
    (g := F0 m (pc + 3 + 1 + 2) ls [.ref q, .ref H.size, .ref H.size]) rfl (hR.1.1.trans hfx.2.2.1.symm) rfl rfl rfl (by rw [hfx.2.1]; exact hd4) (by rw [hfx.2.1]; exact hd5) (by rw [hnil]; intro y hy; cases hy) (by omega) (by show 2 * 0 + 1 + 81 ≤ R.locals; omega) hfx.2.2.2.2.1
  have hU : ∀ q : Nat, q < s.heap.size → U.heap[q]? = H[q]? := fun q hq => by
    rw [hH q hq]
    exact xsame0 g5 hq
  have hM := hR.2.2.2.1
  refine ⟨U, g1, .threw H.size, [], g2, g3, g4, g5, ⟨?_, hM.2.1, ⟨?_, ?_, fun q hq => by cases hq⟩, hM.2.2.2⟩, fun _ => rfl, H.size, rfl, ce, g6, g7, ?_⟩
  · intro i w hw
    have h1 := hM.1 i w hw
    refine h1.kept (hU _ ?_)
    have hmem : w ∈ xw cs ad σ := List.mem_of_getElem? hw
    obtain ⟨z, hz, rfl⟩ := List.mem_map.mp hmem
    exact hG.2.2.2.2.1 z hz
  · exact Nat.le_trans hG.2.2.2.1.1 g5.2.1
  · intro q hq hA
    have hqs : q < s.heap.size := Nat.lt_of_lt_of_le hq hG.2.2.2.1.1
    rw [hU q hqs, hH q hqs]
    exact hG.2.2.2.1.2.1 q hq hA
  · show U.vm.findClass _ = _
    rw [g4.alike.findClass]
    exact g8
end XT4
