-- What the law knows where it begins (own work)
theorem ke_mem {pos : Nat} {w : Jvm.Cond} (h : lw_tbl[pos]? = some w) : w ∈ lw_tbl := List.mem_of_getElem? h
theorem ke_N {s : State} {a : Array Value} (hts : ∀ w ∈ lw_tbl, w.before a s = true) : xN s := by
  refine ⟨fun w hw hg => ?_, va_AO.of (hts _ (ke_mem (pos := 149) (by decide +kernel)))⟩
  cases hgw : goodWord w with
  | true => exact word_at (State.WarmedH.refl s) (good_of_word hgw) (hts w hw)
  | false =>
    unfold xgw at hg
    rw [hgw, Bool.false_or] at hg
    split at hg
    · exact va_Nw.of rfl (hts _ hw)
    · exact va_Nw.of rfl (hts _ hw)
    · cases hg
def ke_nth {α : Type} (d : α) : List α → Nat → α
  | [], _ => d
  | a :: _, 0 => a
  | _ :: r, n + 1 => ke_nth d r n
theorem ke_K {s : State} {a : Array Value} (hts : ∀ w ∈ lw_tbl, w.before a s = true) : ∃ (D : va_G) (cs : Nat → ClassId), va_K D xm_cl (xtys cs) s := by
  have hN := ke_N hts
  obtain ⟨c0, i0, h0⟩ := u_known (kwc0 (args := a) hN) (fun w hw => hw) (hts _ (ke_mem (pos := 71) (by decide +kernel)) : (Cond.instantiable "LayerFeeder" 16).before a s = true)
  obtain ⟨c1, i1, h1⟩ := u_known (kwc1 (args := a) hN) (fun w hw => hw) (hts _ (ke_mem (pos := 79) (by decide +kernel)) : (Cond.instantiable "LayerFeeder$Text" 2).before a s = true)
  obtain ⟨c2, i2, h2⟩ := u_known (kwc2 (args := a) hN) (fun w hw => hw) (hts _ (ke_mem (pos := 93) (by decide +kernel)) : (Cond.instantiable "LayerFeeder$Frame" 3).before a s = true)
  obtain ⟨c3, i3, h3⟩ := u_known (kwc3 (args := a) hN) (fun w hw => hw) (hts _ (ke_mem (pos := 113) (by decide +kernel)) : (Cond.instantiable "LayerFeeder$Command" 3).before a s = true)
  obtain ⟨c4, i4, h4⟩ := u_known (kwc4 (args := a) hN) (fun w hw => hw) (hts _ (ke_mem (pos := 143) (by decide +kernel)) : (Cond.instantiable "LayerFeeder$Row" 7).before a s = true)
  obtain ⟨c5, i5, h5⟩ := u_known (kwc5 (args := a) hN) (fun w hw => hw) (hts _ (ke_mem (pos := 150) (by decide +kernel)) : (Cond.instantiable "LayerFeeder$Block" 5).before a s = true)
  obtain ⟨c6, i6, h6⟩ := u_known (kwc6 (args := a) hN) (fun w hw => hw) (hts _ (ke_mem (pos := 130) (by decide +kernel)) : (Cond.instantiable "LayerFeeder$Slots" 2).before a s = true)
  obtain ⟨c7, i7, h7⟩ := u_known (kwc7 (args := a) hN) (fun w hw => hw) (hts _ (ke_mem (pos := 876) (by decide +kernel)) : (Cond.instantiable "LayerFeederModel" 32).before a s = true)
  obtain ⟨b1, k1, p1, q1, r1, t1⟩ := Cond.arrayClass_spec (hts _ (ke_mem (pos := 111) (by decide +kernel)) : (Cond.arrayClass .int).before a s = true)
  obtain ⟨b2, k2, p2, q2, r2, t2⟩ := Cond.arrayClass_spec (hts _ (ke_mem (pos := 91) (by decide +kernel)) : (Cond.arrayClass .char).before a s = true)
  obtain ⟨b3, k3, p3, q3, r3, t3⟩ := Cond.arrayClass_spec (hts _ (ke_mem (pos := 1166) (by decide +kernel)) : (Cond.arrayClass .long).before a s = true)
  obtain ⟨p4, b4, k4, q4, -, r4, t4, u4⟩ := Cond.arrayOver_spec (hts _ (ke_mem (pos := 149) (by decide +kernel)) : (Cond.arrayOver (.object "LayerFeeder$Block")).before a s = true)
  refine ⟨(ke_nth c0 [c0, c1, c2, c3, c4, c5, c6, c7], ke_nth i0 [i0, i1, i2, i3, i4, i5, i6, i7]), ke_nth b1 [b1, b1, b2, b3, b4], fun c q hq => ?_, fun k q hq => ?_⟩
  · match c, hq with
    | 0, hq => cases hq; exact h0
    | 1, hq => cases hq; exact h1
    | 2, hq => cases hq; exact h2
    | 3, hq => cases hq; exact h3
    | 4, hq => cases hq; exact h4
    | 5, hq => cases hq; exact h5
    | 6, hq => cases hq; exact h6
    | 7, hq => cases hq; exact h7
  · match k, hq with
    | 0, hq => cases hq; exact ⟨fun N z => ⟨(fun k h => by cases h), k1, r1, p1, t1⟩, q1⟩
    | 1, hq => cases hq; exact ⟨fun N z => ⟨(fun k h => by cases h), k2, r2, p2, t2⟩, q2⟩
    | 2, hq => cases hq; exact ⟨fun N z => ⟨(fun k h => by cases h), k3, r3, p3, t3⟩, q3⟩
    | 3, hq => cases hq; exact ⟨fun N z => ⟨(fun k h => by cases h), k4, r4, p4, t4⟩, k4, p4, r4, t4, q4, u4⟩
-- narrow: what is given of statics, strings and classes
abbrev ke_ad (b k v : Nat) (f : Nat → Nat → Nat) : Nat → Nat → Nat := fun i j => if i < 32 then f i j else if i = 32 then b else if i = 33 then k else v
theorem ke_ref {args : Array Value} {s : State} {t : Term} (h : (Cond.isRef t).before args s = true) : ∃ v : Value, v.isRef = true ∧ t.eval args s none [] s = some v := by
  cases hv : t.eval args s none [] s with
  | none => simp [Cond.before, Cond.holds, Cond.value, hv] at h
  | some w =>
    simp only [Cond.before, Cond.holds, Cond.value, hv] at h
    cases w with
    | null => exact ⟨.null, rfl, rfl⟩
    | ref t => exact ⟨.ref t, rfl, rfl⟩
    | _ => simp at h
theorem ke_Sta {s : State} {a : Array Value} {A : Nat → Prop} (hts : ∀ w ∈ lw_tbl, w.before a s = true) (hgv : (Jvm.Cond.and given_1 narrow_1).before a s = true) (hA : ∀ a : Nat, a < s.heap.size → ¬ A a) : xSta A s s.heap := by
  have hs := flat_of_before _ hgv
  obtain ⟨v1, r1, e1⟩ := ke_ref (hs (Cond.isRef (.static "java/lang/Throwable" "UNASSIGNED_STACK" "[Ljava/lang/StackTraceElement;")) (by decide +kernel))
  obtain ⟨v2, r2, e2⟩ := ke_ref (hs (Cond.isRef (.static "java/lang/Throwable" "SUPPRESSED_SENTINEL" "Ljava/util/List;")) (by decide +kernel))
  obtain ⟨v4, r4, e4⟩ := ke_ref (hs (Cond.isRef (.static "jdk/internal/util/Preconditions" "SIOOBE_FORMATTER" "Ljava/util/function/BiFunction;")) (by decide +kernel))
  have e3 := va_eqt (hs (Cond.eq (.static "java/lang/String" "COMPACT_STRINGS" "Z") (.int 1)) (by decide +kernel))
  refine ⟨⟨v1, r1, va_Zof (hts _ (ke_mem (pos := 322) (by decide +kernel))) (hts _ (ke_mem (pos := 56) (by decide +kernel))) e1 hA⟩, ⟨v2, r2, va_Zof (hts _ (ke_mem (pos := 324) (by decide +kernel))) (hts _ (ke_mem (pos := 56) (by decide +kernel))) e2 hA⟩, va_Zof (hts _ (ke_mem (pos := 437) (by decide +kernel))) (hts _ (ke_mem (pos := 60) (by decide +kernel))) e3 hA, v4, r4, va_Zof (hts _ (ke_mem (pos := 480) (by decide +kernel))) (hts _ (ke_mem (pos := 64) (by decide +kernel))) e4 hA⟩
theorem ke_X {s : State} {a : Array Value} {A : Nat → Prop} (hts : ∀ w ∈ lw_tbl, w.before a s = true) (hgv : (Jvm.Cond.and given_1 narrow_1).before a s = true) (hA : ∀ a : Nat, a < s.heap.size → ¬ A a) : xX A s.heap s := by
  have hs := flat_of_before _ hgv
  have hi : ∀ (C : String) (n : Nat), (Cond.instantiable C n).before a s = true → ∃ c, s.vm.findClass C = some c ∧ s.vm.assignable c c = true := fun C n h => by
    obtain ⟨cC, kC, hfc, -⟩ := Cond.instantiable_spec h
    exact ⟨cC, hfc, va_asg _ _⟩
  refine ⟨⟨xLS.of (hts _ (ke_mem (pos := 322) (by decide +kernel))) hA, xLS.of (hts _ (ke_mem (pos := 324) (by decide +kernel))) hA⟩, va_Nc.of (hs _ (by decide +kernel)), va_Nc.of (hs _ (by decide +kernel)), va_Nc.of (hs _ (by decide +kernel)), fun x hx => ?_, fun y hy => ?_⟩
  · match x, hx with
    | 0, _ => exact hi "java/lang/IllegalStateException" 6 (hts _ (ke_mem (pos := 296) (by decide +kernel)))
    | 1, _ => exact hi "java/lang/IllegalArgumentException" 6 (hts _ (ke_mem (pos := 719) (by decide +kernel)))
    | 2, _ => exact hi "java/lang/IndexOutOfBoundsException" 6 (hts _ (ke_mem (pos := 770) (by decide +kernel)))
    | 3, _ => exact hi "java/util/NoSuchElementException" 6 (hts _ (ke_mem (pos := 852) (by decide +kernel)))
    | n + 4, h => exact absurd h (by omega)
  · have e : y = ⟨"java/lang/RuntimeException", "<init>", "(Ljava/lang/String;)V"⟩ ∨ y = ⟨"java/lang/Exception", "<init>", "(Ljava/lang/String;)V"⟩ ∨ y = ⟨"java/lang/Throwable", "<init>", "(Ljava/lang/String;)V"⟩ := by
      simpa [xdcl] using hy
    rcases e with rfl | rfl | rfl
    · exact va_Nw.of rfl (hts _ (ke_mem (pos := 299) (by decide +kernel)))
    · exact va_Nw.of rfl (hts _ (ke_mem (pos := 301) (by decide +kernel)))
    · exact va_Nw.of rfl (hts _ (ke_mem (pos := 303) (by decide +kernel)))
theorem ke_msg {s : State} {a : Array Value} {own tx : String} {k : Nat} (h1 : (Cond.stringRef own k tx).before a s = true) (h2 : (Cond.exactly (.string own k) "java/lang/String").before a s = true) : ∃ q : Nat, vk_R own k tx q s := by
  obtain ⟨q, c, cA, kA, q1, -⟩ := Cond.exactly_spec h2
  exact ⟨q, vk_R.of h1 q1⟩
theorem ke_T {s : State} {a : Array Value} {A : Nat → Prop} (hts : ∀ w ∈ lw_tbl, w.before a s = true) (hgv : (Jvm.Cond.and given_1 narrow_1).before a s = true) (hA : ∀ a : Nat, a < s.heap.size → ¬ A a) : ∃ k v : Nat, ∀ ad : Nat → Nat → Nat, ad 33 0 = k → ad 34 0 = v → xStr ad s ∧ xTx ad A s s.heap := by
  have hs := flat_of_before _ hgv
  obtain ⟨adK, adV, hS, he⟩ := vk_Sof (args := a) (s := s) (N := 1) (tm := fun _ => .string "LayerFeeder$Command" 46) (len := [3]) (byt := [[88, 89, 69]]) (A := A) (fun i hi => by
      obtain rfl : i = 0 := by omega
      decide) (fun i hi => hs _ (by decide +kernel)) (fun i hi => hs _ (by decide +kernel)) (fun i hi => hs _ (by decide +kernel)) (fun i hi => by
      obtain rfl : i = 0 := by omega
      exact hs _ (by decide +kernel)) (fun i hi j hj => by
      obtain rfl : i = 0 := by omega
      match j, hj with
      | 0, _ => exact hs _ (by decide +kernel)
      | 1, _ => exact hs _ (by decide +kernel)
      | 2, _ => exact hs _ (by decide +kernel)
      | n + 3, h => exact absurd h (by simp)) (fun i j hi hj hij => absurd (by omega) hij) hA
  have e46 := he 0 (by decide)
  have e239 := va_eqR (hs (Cond.eq (.string "LayerFeeder$Command" 46) (.string "LayerFeeder" 239)) (by decide +kernel)) e46
  refine ⟨adK 0, adV 0, fun ad h1 h2 => ⟨⟨?_, ?_, fun q hq => ?_⟩, ?_⟩⟩
  · rw [h1]; exact vk_R.of (hts _ (ke_mem (pos := 538) (by decide +kernel))) e239
  · rw [h1]; exact vk_R.of (hts _ (ke_mem (pos := 423) (by decide +kernel))) e46
  · have hm : ∀ (k : Nat) (tx : String), (k, tx) ∈ xm_msgs → ∃ q : Nat, vk_R "LayerFeeder" k tx q s := by
      unfold xm_msgs
      intro k tx hm
      simp only [List.mem_cons, Prod.mk.injEq, List.mem_nil_iff, or_false] at hm
      rcases hm with ⟨rfl, rfl⟩ | ⟨rfl, rfl⟩ | ⟨rfl, rfl⟩ | ⟨rfl, rfl⟩ | ⟨rfl, rfl⟩ | ⟨rfl, rfl⟩ | ⟨rfl, rfl⟩ | ⟨rfl, rfl⟩ | ⟨rfl, rfl⟩ | ⟨rfl, rfl⟩ | ⟨rfl, rfl⟩
      · exact ke_msg (hts _ (ke_mem (pos := 337) (by decide +kernel))) (hs _ (by decide +kernel))
      · exact ke_msg (hts _ (ke_mem (pos := 727) (by decide +kernel))) (hs _ (by decide +kernel))
      · exact ke_msg (hts _ (ke_mem (pos := 752) (by decide +kernel))) (hs _ (by decide +kernel))
      · exact ke_msg (hts _ (ke_mem (pos := 768) (by decide +kernel))) (hs _ (by decide +kernel))
      · exact ke_msg (hts _ (ke_mem (pos := 778) (by decide +kernel))) (hs _ (by decide +kernel))
      · exact ke_msg (hts _ (ke_mem (pos := 793) (by decide +kernel))) (hs _ (by decide +kernel))
      · exact ke_msg (hts _ (ke_mem (pos := 808) (by decide +kernel))) (hs _ (by decide +kernel))
      · exact ke_msg (hts _ (ke_mem (pos := 816) (by decide +kernel))) (hs _ (by decide +kernel))
      · exact ke_msg (hts _ (ke_mem (pos := 840) (by decide +kernel))) (hs _ (by decide +kernel))
      · exact ke_msg (hts _ (ke_mem (pos := 860) (by decide +kernel))) (hs _ (by decide +kernel))
      · exact ke_msg (hts _ (ke_mem (pos := 874) (by decide +kernel))) (hs _ (by decide +kernel))
    exact hm q.1 q.2 hq
  · refine ⟨fun i hi => ?_, fun i j hi hj _ => by omega⟩
    obtain rfl : i = 0 := by omega
    rw [h1, h2]
    exact hS.1 0 (by decide)
