-- what holds at the start of every call below the law (own work)
def xgw (w : Jvm.Cond) : Bool := goodWord w || (match w with
  | .fieldLinkNest .. => true
  | .methodLinkNest .. => true
  | _ => false)
theorem xgw_warm {w : Jvm.Cond} (h : xgw w = true) {s U : State} (hW : s.WarmedH U.vm) (hz : va_Nw w s) : va_Nw w U := by
  cases hg : goodWord w with
  | true => exact word_at hW (good_of_word hg) hz
  | false =>
    unfold xgw at h
    rw [hg, Bool.false_or] at h
    split at h
    · exact va_Nw.warmF hW hz
    · exact va_Nw.warmM hW hz
    · cases h
def xm_msgs : List (Nat × String) := [(178, "the power is off, or it is lost"), (101, "n is not 1 .. 20000"), (182, "there is no such axis"), (116, "what is none of 0 .. 3"), (120, "there is no such block"), (146, "the power is off"), (154, "words is not -1 .. 5"), (156, "the power is on"), (180, "it is not lost, or the power is off"), (173, "both slots are empty"), (176, "there is no such slot or number")]
def xStr (ad : Nat → Nat → Nat) (s : State) : Prop := vk_R "LayerFeeder" 239 "XYE" (ad 33 0) s ∧ vk_R "LayerFeeder$Command" 46 "XYE" (ad 33 0) s ∧ ∀ q ∈ xm_msgs, ∃ a : Nat, vk_R "LayerFeeder" q.1 q.2 a s
theorem xStr.warm {ad : Nat → Nat → Nat} {s U : State} (hW : s.WarmedH U.vm) (h : xStr ad s) : xStr ad U :=
  ⟨h.1.warm hW, h.2.1.warm hW, fun q hq => by obtain ⟨a, ha⟩ := h.2.2 q hq; exact ⟨a, ha.warm hW⟩⟩
-- the statics that are read: fixed values in the old cells
def xSta (A : Nat → Prop) (s : State) (H : Heap) : Prop := (∃ v : Value, v.isRef = true ∧ va_Z "java/lang/Throwable" "UNASSIGNED_STACK" "[Ljava/lang/StackTraceElement;" v A s H) ∧ (∃ v : Value, v.isRef = true ∧ va_Z "java/lang/Throwable" "SUPPRESSED_SENTINEL" "Ljava/util/List;" v A s H) ∧
  va_Z "java/lang/String" "COMPACT_STRINGS" "Z" (.int 1) A s H ∧ ∃ v : Value, v.isRef = true ∧ va_Z "jdk/internal/util/Preconditions" "SIOOBE_FORMATTER" "Ljava/util/function/BiFunction;" v A s H
theorem xSta.moved {A : Nat → Prop} {s U : State} {H : Heap} (hW : s.vm.Alike U.vm) (h : xSta A s H) : xSta A U H := by
  obtain ⟨⟨v1, a1, b1⟩, ⟨v2, a2, b2⟩, b3, v4, a4, b4⟩ := h
  exact ⟨⟨v1, a1, b1.moved hW⟩, ⟨v2, a2, b2.moved hW⟩, b3.moved hW, v4, a4, b4.moved hW⟩
-- the text's cells: the String XYE at ad 33 0, its bytes at ad 34 0
def xTx (ad : Nat → Nat → Nat) (A : Nat → Prop) (s : State) (H : Heap) : Prop := vk_S 1 [3] [[88, 89, 69]] (fun _ => ad 33 0) (fun _ => ad 34 0) A s H
def xG (D : va_G) (cs : Nat → ClassId) (ad : Nat → Nat → Nat) (A : Nat → Prop) (H0 : Heap) (N : Nat) (xs : Nat → Int32) (s : State) : Prop :=
  (∀ w ∈ lw_tbl, xgw w = true → va_Nw w s) ∧ va_K D xm_cl (xtys cs) s ∧ va_X (ad 32 0) N xs s H0 ∧ va_S A H0 s.heap [] ∧ (∀ q ∈ xprs, ad q.1 q.2 < s.heap.size) ∧ xStr ad s ∧ xSta A s H0 ∧ xTx ad A s H0
theorem xG.warm {D : va_G} {cs : Nat → ClassId} {ad : Nat → Nat → Nat} {A : Nat → Prop} {H0 : Heap} {N : Nat} {xs : Nat → Int32} (s U : State) (h : xG D cs ad A H0 N xs s) (hW : s.WarmedH U.vm) (hS : va_S A H0 U.heap []) (hq : ∀ q ∈ xprs, ad q.1 q.2 < U.heap.size) : xG D cs ad A H0 N xs U :=
  ⟨fun w hw hg => xgw_warm hg hW (h.1 w hw hg), h.2.1.moved hW.alike, h.2.2.1.moved hW.alike, hS, hq, h.2.2.2.2.2.1.warm hW, h.2.2.2.2.2.2.1.moved hW.alike, h.2.2.2.2.2.2.2.moved hW.alike⟩
