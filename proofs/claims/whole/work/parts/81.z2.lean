-- The machine over whole numbers: one instruction read so, and what it says of the machine. (own work)
abbrev zV : Type := Int ⊕ (Int ⊕ (Nat × Nat))
abbrev zI (x : Int) : zV := Sum.inl x
abbrev zJ (x : Int) : zV := Sum.inr (Sum.inl x)
abbrev zR (k j : Nat) : zV := Sum.inr (Sum.inr (k, j))
abbrev zM : Type := (Nat → Nat → Nat → Int) × (Nat → Nat → Nat → Int) × Nat
def z_w (m : zM) (k j s : Nat) (v : Int) : zM := (fun a b c => bif xm_at k j s a b c then v else m.1 a b c, m.2)
def z_wl (m : zM) (k j s : Nat) (v : Int) : zM := (m.1, fun a b c => bif xm_at k j s a b c then v else m.2.1 a b c, m.2.2)
abbrev zL : Type := List (Option zV)
abbrev zS : Type := Nat × zL × List zV × zM × Bool
def z_v : zV → xm_V
  | .inl x => xI (zi x)
  | .inr (.inl x) => xJ (zl x)
  | .inr (.inr (k, j)) => xR k j
def z_o : Option zV → Option xm_V
  | some v => some (z_v v)
  | none => none
def z_L : zL → xm_L
  | [] => []
  | a :: r => z_o a :: z_L r
def z_st : List zV → List xm_V
  | [] => []
  | a :: r => z_v a :: z_st r
def z_m (m : zM) : xm_M := (fun a b c => zi (m.1 a b c), fun a b c => zl (m.2.1 a b c), m.2.2)
def z_s (s : zS) : xm_S := (s.1, z_L s.2.1, z_st s.2.2.1, z_m s.2.2.2.1, s.2.2.2.2)
def z_isl : Option zV → Bool
  | some (.inr (.inl _)) => true
  | _ => false
def z_lg : zL → Nat → Option zV
  | [], _ => none
  | v :: _, 0 => v
  | _ :: r, n + 1 => z_lg r n
def z_ls : zL → Nat → Option zV → zL
  | [], _, _ => []
  | _ :: r, 0, v => v :: r
  | a :: r, n + 1, v => a :: z_ls r n v
def z_kill (L : zL) : Nat → zL
  | 0 => L
  | n + 1 => bif z_isl (z_lg L n) then z_ls L n none else L
def z_s1 (L : zL) (n : Nat) (v : zV) : zL := z_ls (z_kill L n) n (some v)
def z_s2 (L : zL) (n : Nat) (v : zV) : zL := z_ls (z_ls (z_kill L n) n (some v)) (n + 1) none
theorem z_isl_o (o : Option zV) : xm_isl (z_o o) = z_isl o := by rcases o with _ | x | x | x <;> rfl
theorem z_isl_v (v : zV) : xm_isl (some (z_v v)) = z_isl (some v) := z_isl_o (some v)
theorem z_lg_L : ∀ (L : zL) (n : Nat), xm_lg (z_L L) n = z_o (z_lg L n)
  | [], _ => rfl
  | _ :: _, 0 => rfl
  | _ :: r, n + 1 => z_lg_L r n
theorem z_ls_L : ∀ (L : zL) (n : Nat) (v : Option zV), xm_ls (z_L L) n (z_o v) = z_L (z_ls L n v)
  | [], _, _ => rfl
  | _ :: _, 0, _ => rfl
  | a :: r, n + 1, v => congrArg (z_o a :: ·) (z_ls_L r n v)
theorem z_kill_L (L : zL) (n : Nat) : xm_kill (z_L L) n = z_L (z_kill L n) := by
  cases n with
  | zero => rfl
  | succ n =>
    simp only [xm_kill, z_kill, z_lg_L, z_isl_o]
    cases z_isl (z_lg L n) with
    | true => exact z_ls_L L n none
    | false => rfl
theorem z_s1_L (L : zL) (n : Nat) (v : zV) : xm_s1 (z_L L) n (z_v v) = z_L (z_s1 L n v) := by
  simp only [xm_s1, z_s1, z_kill_L]; exact z_ls_L _ n (some v)
theorem z_s2_L (L : zL) (n : Nat) (v : zV) : xm_s2 (z_L L) n (z_v v) = z_L (z_s2 L n v) := by
  simp only [xm_s2, z_s2, z_kill_L]
  rw [show some (z_v v) = z_o (some v) from rfl, z_ls_L]
  exact z_ls_L _ (n + 1) none
theorem z_m_w (m : zM) (k j s : Nat) (v : Int) : xm_w (z_m m) k j s (zi v) = z_m (z_w m k j s v) := by
  simp only [xm_w, z_w, z_m]
  refine Prod.ext ?_ rfl
  funext a b c
  dsimp only
  cases xm_at k j s a b c <;> rfl
theorem z_m_wl (m : zM) (k j s : Nat) (v : Int) : xm_wl (z_m m) k j s (zl v) = z_m (z_wl m k j s v) := by
  simp only [xm_wl, z_wl, z_m]
  refine Prod.ext rfl (Prod.ext ?_ rfl)
  funext a b c
  dsimp only
  cases xm_at k j s a b c <;> rfl
-- what an instruction gives: next | guarded | branch | call | return | throw
abbrev zO : Type := zS ⊕ ((Prop × zS) ⊕ ((Prop × Prop × zS × zS) ⊕ ((Nat × List zV × zS) ⊕ ((Prop × Option zV) ⊕ Nat))))
abbrev zoN (s : zS) : Option zO := some (.inl s)
abbrev zoC (b : Prop) (s : zS) : Option zO := some (.inr (.inl (b, s)))
abbrev zoB (g b : Prop) (s t : zS) : Option zO := some (.inr (.inr (.inl (g, b, s, t))))
abbrev zoK (m : Nat) (as : List zV) (s : zS) : Option zO := some (.inr (.inr (.inr (.inl (m, as, s)))))
abbrev zoR (b : Prop) (v : Option zV) : Option zO := some (.inr (.inr (.inr (.inr (.inl (b, v))))))
abbrev zoT (x : Nat) : Option zO := some (.inr (.inr (.inr (.inr (.inr x)))))
def z_ok (o : Option zO) (o' : Option xm_O) : Prop := match o with
  | none => True
  | some (.inl t) => o' = oN (z_s t)
  | some (.inr (.inl q)) => q.1 → (o' = oN (z_s q.2) ∨ o' = oC true (z_s q.2))
  | some (.inr (.inr (.inl q))) => q.1 → ∃ b, o' = oB b (z_s q.2.2.1) (z_s q.2.2.2) ∧ (b = true ↔ q.2.1)
  | some (.inr (.inr (.inr (.inl q)))) => o' = oK q.1 (z_st q.2.1) (z_s q.2.2)
  | some (.inr (.inr (.inr (.inr (.inl q))))) => q.1 → o' = oR true (z_o q.2)
  | some (.inr (.inr (.inr (.inr (.inr x))))) => o' = oT x
-- two ints, with what is asked of them
def z_i2 (f : Int → Int → Int) (pn : Nat) (L : zL) (st : List zV) (m : zM) (cl : Bool) : Option zO := match st with
  | .inl y :: .inl x :: r => zoN (pn, L, zI (f x y) :: r, m, cl)
  | _ => none
def z_i2g (g : Int → Int → Prop) (f : Int → Int → Int) (pn : Nat) (L : zL) (st : List zV) (m : zM) (cl : Bool) : Option zO := match st with
  | .inl y :: .inl x :: r => zoC (g x y) (pn, L, zI (f x y) :: r, m, cl)
  | _ => none
def z_l2 (f : Int → Int → Int) (pn : Nat) (L : zL) (st : List zV) (m : zM) (cl : Bool) : Option zO := match st with
  | .inr (.inl y) :: .inr (.inl x) :: r => zoN (pn, L, zJ (f x y) :: r, m, cl)
  | _ => none
def z_l2g (g : Int → Int → Prop) (f : Int → Int → Int) (pn : Nat) (L : zL) (st : List zV) (m : zM) (cl : Bool) : Option zO := match st with
  | .inr (.inl y) :: .inr (.inl x) :: r => zoC (g x y) (pn, L, zJ (f x y) :: r, m, cl)
  | _ => none
def z_lig (g : Int → Int → Prop) (f : Int → Int → Int) (pn : Nat) (L : zL) (st : List zV) (m : zM) (cl : Bool) : Option zO := match st with
  | .inl y :: .inr (.inl x) :: r => zoC (g x y) (pn, L, zJ (f x y) :: r, m, cl)
  | _ => none
def z_ll (pn : Nat) (L : zL) (st : List zV) (m : zM) (cl : Bool) : Option zO := match st with
  | .inr (.inl y) :: .inr (.inl x) :: r => zoC (zrl x ∧ zrl y) (pn, L, zI (z_cmp x y) :: r, m, cl)
  | _ => none
def z_i1 (f : Int → zV) (pn : Nat) (L : zL) (st : List zV) (m : zM) (cl : Bool) : Option zO := match st with
  | .inl x :: r => zoN (pn, L, f x :: r, m, cl)
  | _ => none
def z_i1g (g : Int → Prop) (f : Int → zV) (pn : Nat) (L : zL) (st : List zV) (m : zM) (cl : Bool) : Option zO := match st with
  | .inl x :: r => zoC (g x) (pn, L, f x :: r, m, cl)
  | _ => none
def z_l1 (f : Int → zV) (pn : Nat) (L : zL) (st : List zV) (m : zM) (cl : Bool) : Option zO := match st with
  | .inr (.inl x) :: r => zoN (pn, L, f x :: r, m, cl)
  | _ => none
def z_b1 (f : Int → Prop) (pn tgt : Nat) (L : zL) (st : List zV) (m : zM) (cl : Bool) : Option zO := match st with
  | .inl x :: r => zoB (zr x) (f x) (tgt, L, r, m, cl) (pn, L, r, m, cl)
  | _ => none
def z_b2 (f : Int → Int → Prop) (pn tgt : Nat) (L : zL) (st : List zV) (m : zM) (cl : Bool) : Option zO := match st with
  | .inl y :: .inl x :: r => zoB (zr x ∧ zr y) (f x y) (tgt, L, r, m, cl) (pn, L, r, m, cl)
  | _ => none
theorem z_i2_ok {f : Int → Int → Int} {g : Int32 → Int32 → Int32} (h : ∀ x y, g (zi x) (zi y) = zi (f x y)) (pn : Nat) (L : zL) (st : List zV) (m : zM) (cl : Bool) : z_ok (z_i2 f pn L st m cl) (xm_i2 g pn (z_L L) (z_st st) (z_m m) cl) := by
  rcases st with _ | ⟨y | y | y, _ | ⟨x | x | x, r⟩⟩ <;> first | exact trivial | skip
  show xm_i2 g pn (z_L L) (xI (zi y) :: xI (zi x) :: z_st r) (z_m m) cl = _
  simp only [xm_i2, h]; rfl
theorem z_i2g_ok {q : Int → Int → Prop} {f : Int → Int → Int} {g : Int32 → Int32 → Int32} (h : ∀ x y, q x y → g (zi x) (zi y) = zi (f x y)) (pn : Nat) (L : zL) (st : List zV) (m : zM) (cl : Bool) : z_ok (z_i2g q f pn L st m cl) (xm_i2 g pn (z_L L) (z_st st) (z_m m) cl) := by
  rcases st with _ | ⟨y | y | y, _ | ⟨x | x | x, r⟩⟩ <;> first | exact trivial | skip
  intro hq
  refine Or.inl ?_
  show xm_i2 g pn (z_L L) (xI (zi y) :: xI (zi x) :: z_st r) (z_m m) cl = _
  simp only [xm_i2, h x y hq]; rfl
theorem z_i2d_ok {q : Int → Int → Prop} {f : Int → Int → Int} {g : Int32 → Int32 → Int32} (h : ∀ x y, q x y → g (zi x) (zi y) = zi (f x y) ∧ (zi y == 0) = false) (pn : Nat) (L : zL) (st : List zV) (m : zM) (cl : Bool) : z_ok (z_i2g q f pn L st m cl) (xm_i2d g pn (z_L L) (z_st st) (z_m m) cl) := by
  rcases st with _ | ⟨y | y | y, _ | ⟨x | x | x, r⟩⟩ <;> first | exact trivial | skip
  intro hq
  refine Or.inr ?_
  show xm_i2d g pn (z_L L) (xI (zi y) :: xI (zi x) :: z_st r) (z_m m) cl = _
  simp only [xm_i2d, (h x y hq).1, (h x y hq).2]; rfl
theorem z_l2_ok {f : Int → Int → Int} {g : Int64 → Int64 → Int64} (h : ∀ x y, g (zl x) (zl y) = zl (f x y)) (pn : Nat) (L : zL) (st : List zV) (m : zM) (cl : Bool) : z_ok (z_l2 f pn L st m cl) (xm_l2 g pn (z_L L) (z_st st) (z_m m) cl) := by
  rcases st with _ | ⟨y | y | y, _ | ⟨x | x | x, r⟩⟩ <;> first | exact trivial | skip
  show xm_l2 g pn (z_L L) (xJ (zl y) :: xJ (zl x) :: z_st r) (z_m m) cl = _
  simp only [xm_l2, h]; rfl
theorem z_l2g_ok {q : Int → Int → Prop} {f : Int → Int → Int} {g : Int64 → Int64 → Int64} (h : ∀ x y, q x y → g (zl x) (zl y) = zl (f x y)) (pn : Nat) (L : zL) (st : List zV) (m : zM) (cl : Bool) : z_ok (z_l2g q f pn L st m cl) (xm_l2 g pn (z_L L) (z_st st) (z_m m) cl) := by
  rcases st with _ | ⟨y | y | y, _ | ⟨x | x | x, r⟩⟩ <;> first | exact trivial | skip
  intro hq
  refine Or.inl ?_
  show xm_l2 g pn (z_L L) (xJ (zl y) :: xJ (zl x) :: z_st r) (z_m m) cl = _
  simp only [xm_l2, h x y hq]; rfl
theorem z_l2d_ok {q : Int → Int → Prop} {f : Int → Int → Int} {g : Int64 → Int64 → Int64} (h : ∀ x y, q x y → g (zl x) (zl y) = zl (f x y) ∧ (zl y == 0) = false) (pn : Nat) (L : zL) (st : List zV) (m : zM) (cl : Bool) : z_ok (z_l2g q f pn L st m cl) (xm_l2d g pn (z_L L) (z_st st) (z_m m) cl) := by
  rcases st with _ | ⟨y | y | y, _ | ⟨x | x | x, r⟩⟩ <;> first | exact trivial | skip
  intro hq
  refine Or.inr ?_
  show xm_l2d g pn (z_L L) (xJ (zl y) :: xJ (zl x) :: z_st r) (z_m m) cl = _
  simp only [xm_l2d, (h x y hq).1, (h x y hq).2]; rfl
theorem z_lig_ok {q : Int → Int → Prop} {f : Int → Int → Int} {g : Int64 → Int32 → Int64} (h : ∀ x y, q x y → g (zl x) (zi y) = zl (f x y)) (pn : Nat) (L : zL) (st : List zV) (m : zM) (cl : Bool) : z_ok (z_lig q f pn L st m cl) (xm_li g pn (z_L L) (z_st st) (z_m m) cl) := by
  rcases st with _ | ⟨y | y | y, _ | ⟨x | x | x, r⟩⟩ <;> first | exact trivial | skip
  intro hq
  refine Or.inl ?_
  show xm_li g pn (z_L L) (xI (zi y) :: xJ (zl x) :: z_st r) (z_m m) cl = _
  simp only [xm_li, h x y hq]; rfl
theorem z_ll_ok (pn : Nat) (L : zL) (st : List zV) (m : zM) (cl : Bool) : z_ok (z_ll pn L st m cl) (xm_ll lg_cmp pn (z_L L) (z_st st) (z_m m) cl) := by
  rcases st with _ | ⟨y | y | y, _ | ⟨x | x | x, r⟩⟩ <;> first | exact trivial | skip
  intro hq
  refine Or.inl ?_
  show xm_ll lg_cmp pn (z_L L) (xJ (zl y) :: xJ (zl x) :: z_st r) (z_m m) cl = _
  simp only [xm_ll, z_lcmp hq.1 hq.2]; rfl
theorem z_i1_ok {f : Int → zV} {g : Int32 → xm_V} (h : ∀ x, g (zi x) = z_v (f x)) (pn : Nat) (L : zL) (st : List zV) (m : zM) (cl : Bool) : z_ok (z_i1 f pn L st m cl) (xm_i1 g pn (z_L L) (z_st st) (z_m m) cl) := by
  rcases st with _ | ⟨x | x | x, r⟩ <;> first | exact trivial | skip
  show xm_i1 g pn (z_L L) (xI (zi x) :: z_st r) (z_m m) cl = _
  simp only [xm_i1, h]; rfl
theorem z_i1g_ok {q : Int → Prop} {f : Int → zV} {g : Int32 → xm_V} (h : ∀ x, q x → g (zi x) = z_v (f x)) (pn : Nat) (L : zL) (st : List zV) (m : zM) (cl : Bool) : z_ok (z_i1g q f pn L st m cl) (xm_i1 g pn (z_L L) (z_st st) (z_m m) cl) := by
  rcases st with _ | ⟨x | x | x, r⟩ <;> first | exact trivial | skip
  intro hq
  refine Or.inl ?_
  show xm_i1 g pn (z_L L) (xI (zi x) :: z_st r) (z_m m) cl = _
  simp only [xm_i1, h x hq]; rfl
theorem z_l1_ok {f : Int → zV} {g : Int64 → xm_V} (h : ∀ x, g (zl x) = z_v (f x)) (pn : Nat) (L : zL) (st : List zV) (m : zM) (cl : Bool) : z_ok (z_l1 f pn L st m cl) (xm_l1 g pn (z_L L) (z_st st) (z_m m) cl) := by
  rcases st with _ | ⟨x | x | x, r⟩ <;> first | exact trivial | skip
  show xm_l1 g pn (z_L L) (xJ (zl x) :: z_st r) (z_m m) cl = _
  simp only [xm_l1, h]; rfl
def z_c1 (q : Jvm.ClassFile.Cond) (x : Int) : Prop := match q with
  | .eq => x = 0
  | .ne => ¬ x = 0
  | .lt => x < 0
  | .ge => 0 ≤ x
  | .gt => 0 < x
  | .le => x ≤ 0
def z_c2 (q : Jvm.ClassFile.Cond) (x y : Int) : Prop := match q with
  | .eq => x = y
  | .ne => ¬ x = y
  | .lt => x < y
  | .ge => y ≤ x
  | .gt => y < x
  | .le => x ≤ y
theorem z_c2_ok (q : Jvm.ClassFile.Cond) {x y : Int} (hx : zr x) (hy : zr y) : xm_c2 q (zi x) (zi y) = true ↔ z_c2 q x y := by
  cases q <;> simp only [xm_c2, z_c2, decide_eq_true_eq, z_eq hx hy, z_lt hx hy, z_lt hy hx, z_le hx hy, z_le hy hx]
theorem z_c1_ok (q : Jvm.ClassFile.Cond) {x : Int} (hx : zr x) : xm_c1 q (zi x) = true ↔ z_c1 q x := by
  have h := z_c2_ok q hx (show zr 0 by omega)
  cases q <;> exact h
theorem z_b1_ok (q : Jvm.ClassFile.Cond) (pn tgt : Nat) (L : zL) (st : List zV) (m : zM) (cl : Bool) : z_ok (z_b1 (z_c1 q) pn tgt L st m cl) (xm_b1 (xm_c1 q) pn tgt (z_L L) (z_st st) (z_m m) cl) := by
  rcases st with _ | ⟨x | x | x, r⟩ <;> first | exact trivial | skip
  exact fun hq => ⟨xm_c1 q (zi x), rfl, z_c1_ok q hq⟩
theorem z_b2_ok (q : Jvm.ClassFile.Cond) (pn tgt : Nat) (L : zL) (st : List zV) (m : zM) (cl : Bool) : z_ok (z_b2 (z_c2 q) pn tgt L st m cl) (xm_b2 (xm_c2 q) pn tgt (z_L L) (z_st st) (z_m m) cl) := by
  rcases st with _ | ⟨y | y | y, _ | ⟨x | x | x, r⟩⟩ <;> first | exact trivial | skip
  exact fun hq => ⟨xm_c2 q (zi x) (zi y), rfl, z_c2_ok q hq.1 hq.2⟩
