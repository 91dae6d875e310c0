-- more of the calculus: joins of contracts, switches (own work)
theorem zX.mono {k : Nat} {as : List zV} {M : zM} {R R' : Option zV → zM → Bool → Prop} {T T' : Nat → zM → Prop} (h : zX k as M R T) (hR : ∀ v m c, R v m c → R' v m c) (hT : ∀ x m, T x m → T' x m) : zX k as M R' T' :=
  zT.mono h fun o m c e hq => by
    cases o with
    | inl v => exact ⟨hq.1, hR v m c hq.2⟩
    | inr x => exact ⟨hq.1, hq.2.1, hT x m hq.2.2⟩
-- a method that comes back, with as many exceptions as told
def zG (k : Nat) (as : List zV) (M : zM) (R : Option zV → zM → Nat → Prop) : Prop := zT k (z_en k as M) (fun o M' _ e => match o with
  | .inl v => R v M' e
  | .inr _ => False)
theorem zG.mono {k : Nat} {as : List zV} {M : zM} {R R' : Option zV → zM → Nat → Prop} (h : zG k as M R) (hR : ∀ v m e, R v m e → R' v m e) : zG k as M R' :=
  zT.mono h fun o m _ e hq => by
    cases o with
    | inl v => exact hR v m e hq
    | inr x => exact hq
theorem zT.callG {k m pc pn : Nat} {s : zL × List zV × zM × Bool} {as : List zV} {L : zL} {st : List zV} {M : zM} {cl : Bool} {Q : zQ} (hs : z_step k (pc, s) = zoK m as (pn, L, st, M, cl))
    (hm : zG m as M (fun v M' d => ∀ cl', zT k (pn, L, v.toList ++ st, M', cl') (fun o m c e => Q o m c (d + e)))) : zT k (pc, s) Q := by
  refine zT.callg hs hm fun o M' c e hq => ?_
  cases o with
  | inl v => exact Or.inl ⟨v, rfl, hq _⟩
  | inr x => exact hq.elim
theorem z_tsw_x {pc n : Nat} {dflt lo hi : Int} {offs : Array Int} {x : Int} (hx : zr x) (h : x < lo ∨ hi < x) (hn : ((pc : Int) + dflt).toNat = n) : xm_tsw pc dflt lo hi offs (zi x) = n := by
  rw [← hn]; exact z_tsw_d hx h
theorem z_lsw_x {pc n : Nat} {dflt : Int} {ps : Array (Int × Int)} {x : Int} (hx : zr x) (h : ∀ q ∈ ps.toList, ¬ q.1 = x) (hn : ((pc : Int) + dflt).toNat = n) : xm_lsw pc dflt ps (zi x) = n := by
  have e : ∀ l : List (Int × Int), (∀ q ∈ l, ¬ q.1 = x) → Jvm.Op.lookupswitch.offset l dflt x = dflt := by
    intro l
    induction l with
    | nil => intro _; rfl
    | cons q r ih =>
      intro hq
      obtain ⟨a, o⟩ := q
      rw [Jvm.Op.lookupswitch.offset_cons, if_neg (hq (a, o) (by simp))]
      exact ih fun q hm => hq q (List.mem_cons_of_mem _ hm)
  rw [xm_lsw, z_ti hx, e _ h, hn]
-- what lies where after a write
theorem z_beq {a b : Nat} (h : ¬ a = b) : Nat.beq a b = false := by
  cases hb : Nat.beq a b with
  | false => rfl
  | true => exact absurd (Nat.eq_of_beq_eq_true hb) h
theorem z_w_get (m : zM) (k j s : Nat) (v : Int) (a b c : Nat) : (z_w m k j s v).1 a b c = if a = k ∧ b = j ∧ c = s then v else m.1 a b c := by
  simp only [z_w, xm_at]
  by_cases h1 : a = k
  · by_cases h2 : b = j
    · by_cases h3 : c = s
      · subst h1; subst h2; subst h3; simp
      · have : Nat.beq c s = false := z_beq h3
        simp [this, h3]
    · have : Nat.beq b j = false := z_beq h2
      simp [this, h2]
  · have : Nat.beq a k = false := z_beq h1
    simp [this, h1]
theorem z_wl_get (m : zM) (k j s : Nat) (v : Int) (a b c : Nat) : (z_wl m k j s v).2.1 a b c = if a = k ∧ b = j ∧ c = s then v else m.2.1 a b c := by
  simp only [z_wl, xm_at]
  by_cases h1 : a = k
  · by_cases h2 : b = j
    · by_cases h3 : c = s
      · subst h1; subst h2; subst h3; simp
      · have : Nat.beq c s = false := z_beq h3
        simp [this, h3]
    · have : Nat.beq b j = false := z_beq h2
      simp [this, h2]
  · have : Nat.beq a k = false := z_beq h1
    simp [this, h1]
theorem z_w_l (m : zM) (k j s : Nat) (v : Int) : (z_w m k j s v).2 = m.2 := rfl
theorem z_wl_i (m : zM) (k j s : Nat) (v : Int) : (z_wl m k j s v).1 = m.1 := rfl
theorem z_wl_n (m : zM) (k j s : Nat) (v : Int) : (z_wl m k j s v).2.2 = m.2.2 := rfl
