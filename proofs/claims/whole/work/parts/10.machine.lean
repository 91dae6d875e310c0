-- The pure machine: values, memory, locals, one instruction, runs. (own work)
-- a value: an int, a long, a reference (kind, index)
abbrev xm_V : Type := Int32 ⊕ (Int64 ⊕ (Nat × Nat))
abbrev xI (x : Int32) : xm_V := Sum.inl x
abbrev xJ (x : Int64) : xm_V := Sum.inr (Sum.inl x)
abbrev xR (k j : Nat) : xm_V := Sum.inr (Sum.inr (k, j))
-- memory: ints and longs by kind, index, slot; how long the script is
abbrev xm_M : Type := (Nat → Nat → Nat → Int32) × (Nat → Nat → Nat → Int64) × Nat
def xm_at (k j s a b c : Nat) : Bool := Nat.beq a k && (Nat.beq b j && Nat.beq c s)
def xm_w (σ : xm_M) (k j s : Nat) (v : Int32) : xm_M := (fun a b c => bif xm_at k j s a b c then v else σ.1 a b c, σ.2)
def xm_wl (σ : xm_M) (k j s : Nat) (v : Int64) : xm_M := (σ.1, fun a b c => bif xm_at k j s a b c then v else σ.2.1 a b c, σ.2.2)
-- locals
abbrev xm_L : Type := List (Option xm_V)
def xm_lg : xm_L → Nat → Option xm_V
  | [], _ => none
  | v :: _, 0 => v
  | _ :: r, n + 1 => xm_lg r n
def xm_ls : xm_L → Nat → Option xm_V → xm_L
  | [], _, _ => []
  | _ :: r, 0, v => v :: r
  | a :: r, n + 1, v => a :: xm_ls r n v
def xm_isl : Option xm_V → Bool
  | some (.inr (.inl _)) => true
  | _ => false
-- a store behind a long's first half
def xm_kill (L : xm_L) : Nat → xm_L
  | 0 => L
  | n + 1 => bif xm_isl (xm_lg L n) then xm_ls L n none else L
def xm_s1 (L : xm_L) (n : Nat) (v : xm_V) : xm_L := xm_ls (xm_kill L n) n (some v)
def xm_s2 (L : xm_L) (n : Nat) (v : xm_V) : xm_L := xm_ls (xm_ls (xm_kill L n) n (some v)) (n + 1) none
-- a state: pc, locals, stack, memory, 'nothing was written since this call began'
abbrev xm_S : Type := Nat × xm_L × List xm_V × xm_M × Bool
-- what an instruction gives: next | guarded | branch | call | return | throw
abbrev xm_O : Type := xm_S ⊕ ((Bool × xm_S) ⊕ ((Bool × xm_S × xm_S) ⊕ ((Nat × List xm_V × xm_S) ⊕ ((Bool × Option xm_V) ⊕ Nat))))
abbrev oN (s : xm_S) : Option xm_O := some (.inl s)
abbrev oC (b : Bool) (s : xm_S) : Option xm_O := some (.inr (.inl (b, s)))
abbrev oB (b : Bool) (s t : xm_S) : Option xm_O := some (.inr (.inr (.inl (b, s, t))))
abbrev oK (m : Nat) (as : List xm_V) (s : xm_S) : Option xm_O := some (.inr (.inr (.inr (.inl (m, as, s)))))
abbrev oR (b : Bool) (v : Option xm_V) : Option xm_O := some (.inr (.inr (.inr (.inr (.inl (b, v))))))
abbrev oT (x : Nat) : Option xm_O := some (.inr (.inr (.inr (.inr (.inr x)))))
def xm_i2 (f : Int32 → Int32 → Int32) (pn : Nat) (L : xm_L) (st : List xm_V) (σ : xm_M) (cl : Bool) : Option xm_O := match st with
  | .inl y :: .inl x :: r => oN (pn, L, xI (f x y) :: r, σ, cl)
  | _ => none
def xm_i2d (f : Int32 → Int32 → Int32) (pn : Nat) (L : xm_L) (st : List xm_V) (σ : xm_M) (cl : Bool) : Option xm_O := match st with
  | .inl y :: .inl x :: r => oC (!(y == 0)) (pn, L, xI (f x y) :: r, σ, cl)
  | _ => none
def xm_l2 (f : Int64 → Int64 → Int64) (pn : Nat) (L : xm_L) (st : List xm_V) (σ : xm_M) (cl : Bool) : Option xm_O := match st with
  | .inr (.inl y) :: .inr (.inl x) :: r => oN (pn, L, xJ (f x y) :: r, σ, cl)
  | _ => none
def xm_l2d (f : Int64 → Int64 → Int64) (pn : Nat) (L : xm_L) (st : List xm_V) (σ : xm_M) (cl : Bool) : Option xm_O := match st with
  | .inr (.inl y) :: .inr (.inl x) :: r => oC (!(y == 0)) (pn, L, xJ (f x y) :: r, σ, cl)
  | _ => none
def xm_li (f : Int64 → Int32 → Int64) (pn : Nat) (L : xm_L) (st : List xm_V) (σ : xm_M) (cl : Bool) : Option xm_O := match st with
  | .inl y :: .inr (.inl x) :: r => oN (pn, L, xJ (f x y) :: r, σ, cl)
  | _ => none
def xm_ll (f : Int64 → Int64 → Int32) (pn : Nat) (L : xm_L) (st : List xm_V) (σ : xm_M) (cl : Bool) : Option xm_O := match st with
  | .inr (.inl y) :: .inr (.inl x) :: r => oN (pn, L, xI (f x y) :: r, σ, cl)
  | _ => none
def xm_i1 (f : Int32 → xm_V) (pn : Nat) (L : xm_L) (st : List xm_V) (σ : xm_M) (cl : Bool) : Option xm_O := match st with
  | .inl x :: r => oN (pn, L, f x :: r, σ, cl)
  | _ => none
def xm_l1 (f : Int64 → xm_V) (pn : Nat) (L : xm_L) (st : List xm_V) (σ : xm_M) (cl : Bool) : Option xm_O := match st with
  | .inr (.inl x) :: r => oN (pn, L, f x :: r, σ, cl)
  | _ => none
def xm_b1 (f : Int32 → Bool) (pn tgt : Nat) (L : xm_L) (st : List xm_V) (σ : xm_M) (cl : Bool) : Option xm_O := match st with
  | .inl x :: r => oB (f x) (tgt, L, r, σ, cl) (pn, L, r, σ, cl)
  | _ => none
def xm_b2 (f : Int32 → Int32 → Bool) (pn tgt : Nat) (L : xm_L) (st : List xm_V) (σ : xm_M) (cl : Bool) : Option xm_O := match st with
  | .inl y :: .inl x :: r => oB (f x y) (tgt, L, r, σ, cl) (pn, L, r, σ, cl)
  | _ => none
-- loads and stores of locals
def xm_ldi (o : Option xm_V) (pn : Nat) (L : xm_L) (st : List xm_V) (σ : xm_M) (cl : Bool) : Option xm_O := match o with
  | some (.inl x) => oN (pn, L, xI x :: st, σ, cl)
  | _ => none
def xm_ldl (o : Option xm_V) (pn : Nat) (L : xm_L) (st : List xm_V) (σ : xm_M) (cl : Bool) : Option xm_O := match o with
  | some (.inr (.inl x)) => oN (pn, L, xJ x :: st, σ, cl)
  | _ => none
def xm_lda (o : Option xm_V) (pn : Nat) (L : xm_L) (st : List xm_V) (σ : xm_M) (cl : Bool) : Option xm_O := match o with
  | some (.inr (.inr (k, j))) => oN (pn, L, xR k j :: st, σ, cl)
  | _ => none
def xm_sti (n pn : Nat) (L : xm_L) (st : List xm_V) (σ : xm_M) (cl : Bool) : Option xm_O := match st with
  | .inl x :: r => oN (pn, xm_s1 L n (xI x), r, σ, cl)
  | _ => none
def xm_stl (n pn : Nat) (L : xm_L) (st : List xm_V) (σ : xm_M) (cl : Bool) : Option xm_O := match st with
  | .inr (.inl x) :: r => oN (pn, xm_s2 L n (xJ x), r, σ, cl)
  | _ => none
def xm_sta (n pn : Nat) (L : xm_L) (st : List xm_V) (σ : xm_M) (cl : Bool) : Option xm_O := match st with
  | .inr (.inr (k, j)) :: r => oN (pn, xm_s1 L n (xR k j), r, σ, cl)
  | _ => none
def xm_inc (o : Option xm_V) (n pn : Nat) (c : Int32) (L : xm_L) (st : List xm_V) (σ : xm_M) (cl : Bool) : Option xm_O := match o with
  | some (.inl x) => oN (pn, xm_s1 L n (xI (x + c)), st, σ, cl)
  | _ => none
def xm_nth : List Nat → Nat → Nat
  | [], _ => 0
  | a :: _, 0 => a
  | _ :: r, n + 1 => xm_nth r n
def xm_nthL : List (List Nat) → Nat → List Nat
  | [], _ => []
  | a :: _, 0 => a
  | _ :: r, n + 1 => xm_nthL r n
-- arguments off the stack, in their order
def xm_pop : Nat → List xm_V → List xm_V → Option (List xm_V × List xm_V)
  | 0, as, st => some (as, st)
  | n + 1, as, v :: st => xm_pop n (v :: as) st
  | _ + 1, _, [] => none
-- an index within; a truth value
def xm_in (i : Int32) (n : Nat) : Bool := !(decide (i < 0) || Nat.ble n i.toNatClampNeg)
def xm_isb (v : Int32) : Bool := v == 0 || v == 1
def xm_nc (x : Int32) : Int32 := (x.toUInt32 % 65536).toInt32
def xm_nar (x : Int32) : Int32 := x.toUInt32.toUInt16.toUInt32.toInt32
-- fields: what lies at a slot (0 int, 1 long, 2 truth value, t + 3: a reference to kind t of the same index)
def xm_gf (t k j a pn : Nat) (L : xm_L) (r : List xm_V) (σ : xm_M) (cl : Bool) : Option xm_O := match t with
  | 0 => oN (pn, L, xI (σ.1 k j a) :: r, σ, cl)
  | 1 => oN (pn, L, xJ (σ.2.1 k j a) :: r, σ, cl)
  | 2 => oN (pn, L, xI (σ.1 k j a) :: r, σ, cl)
  | t + 3 => oN (pn, L, xR t j :: r, σ, cl)
def xm_pf (t k j a pn : Nat) (v : xm_V) (L : xm_L) (r : List xm_V) (σ : xm_M) : Option xm_O := match t, v with
  | 0, .inl x => oN (pn, L, r, xm_w σ k j a x, false)
  | 1, .inr (.inl x) => oN (pn, L, r, xm_wl σ k j a x, false)
  | 2, .inl x => oC (xm_isb x) (pn, L, r, xm_w σ k j a x, false)
  | _, _ => none
def xm_get (a b pn : Nat) (ft : List Nat) (L : xm_L) (st : List xm_V) (σ : xm_M) (cl : Bool) : Option xm_O := match st with
  | .inr (.inr (k, j)) :: r => bif Nat.beq k b then xm_gf (xm_nth ft a) k j a pn L r σ cl else none
  | _ => none
def xm_put (a b pn : Nat) (ft : List Nat) (L : xm_L) (st : List xm_V) (σ : xm_M) : Option xm_O := match st with
  | v :: .inr (.inr (k, j)) :: r => bif Nat.beq k b then xm_pf (xm_nth ft a) k j a pn v L r σ else none
  | _ => none
-- arrays: e: what its elements are (1 int, 2 char, 3 long, 4 Block, 5 the script's ints, 6 byte), n: how many
def xm_ald (w e n k j pn : Nat) (i : Int32) (L : xm_L) (r : List xm_V) (σ : xm_M) (cl : Bool) : Option xm_O :=
  bif Nat.beq w e then
    (match e with
    | 3 => oC (xm_in i n) (pn, L, xJ (σ.2.1 k j i.toNatClampNeg) :: r, σ, cl)
    | 4 => oC (xm_in i n) (pn, L, xR 10 i.toNatClampNeg :: r, σ, cl)
    | _ => oC (xm_in i n) (pn, L, xI (σ.1 k j i.toNatClampNeg) :: r, σ, cl))
  else bif Nat.beq w 1 && Nat.beq e 5 then oC (xm_in i σ.2.2) (pn, L, xI (σ.1 k j i.toNatClampNeg) :: r, σ, cl)
  else none
def xm_als (ak al : List Nat) (w pn : Nat) (L : xm_L) (st : List xm_V) (σ : xm_M) (cl : Bool) : Option xm_O := match st with
  | .inl i :: .inr (.inr (k, j)) :: r => xm_ald w (xm_nth ak k) (xm_nth al k) k j pn i L r σ cl
  | _ => none
def xm_ast (ak al : List Nat) (w pn : Nat) (L : xm_L) (st : List xm_V) (σ : xm_M) : Option xm_O := match st with
  | .inl x :: .inl i :: .inr (.inr (k, j)) :: r => bif Nat.beq w (xm_nth ak k) then
      (match w with
      | 1 => oC (xm_in i (xm_nth al k)) (pn, L, r, xm_w σ k j i.toNatClampNeg x, false)
      | 2 => oC (xm_in i (xm_nth al k)) (pn, L, r, xm_w σ k j i.toNatClampNeg (xm_nar x), false)
      | _ => none) else none
  | .inr (.inl x) :: .inl i :: .inr (.inr (k, j)) :: r => bif Nat.beq w 3 && Nat.beq 3 (xm_nth ak k) then oC (xm_in i (xm_nth al k)) (pn, L, r, xm_wl σ k j i.toNatClampNeg x, false) else none
  | _ => none
def xm_alen (ak al : List Nat) (pn : Nat) (L : xm_L) (st : List xm_V) (σ : xm_M) (cl : Bool) : Option xm_O := match st with
  | .inr (.inr (k, _)) :: r => bif Nat.beq (xm_nth ak k) 5 then oN (pn, L, xI (Int32.ofNat σ.2.2) :: r, σ, cl) else bif Nat.beq (xm_nth ak k) 0 || Nat.beq (xm_nth ak k) 7 then none else oN (pn, L, xI (Int32.ofNat (xm_nth al k)) :: r, σ, cl)
  | _ => none
-- arraycopy of three ints
def xm_cp (σ : xm_M) (k j k1 j1 : Nat) : xm_M := xm_w (xm_w (xm_w σ k1 j1 0 (σ.1 k j 0)) k1 j1 1 (σ.1 k j 1)) k1 j1 2 (σ.1 k j 2)
def xm_copy (ak al : List Nat) (pn : Nat) (L : xm_L) (st : List xm_V) (σ : xm_M) : Option xm_O := match st with
  | [.inl n, .inl dp, .inr (.inr (k1, j1)), .inl sp, .inr (.inr (k, j))] =>
    bif (Nat.beq (xm_nth ak k) 1 && Nat.beq (xm_nth al k) 3) && (Nat.beq (xm_nth ak k1) 1 && Nat.beq (xm_nth al k1) 3) then
      oC ((n == 3) && ((dp == 0) && (sp == 0))) (pn, L, [], xm_cp σ k j k1 j1, false) else none
  | _ => none
-- the stack's own instructions
def xm_dup (pn : Nat) (L : xm_L) (st : List xm_V) (σ : xm_M) (cl : Bool) : Option xm_O := match st with
  | v :: r => bif xm_isl (some v) then none else oN (pn, L, v :: v :: r, σ, cl)
  | _ => none
def xm_pp (pn : Nat) (L : xm_L) (st : List xm_V) (σ : xm_M) (cl : Bool) : Option xm_O := match st with
  | v :: r => bif xm_isl (some v) then none else oN (pn, L, r, σ, cl)
  | _ => none
def xm_dupx1 (pn : Nat) (L : xm_L) (st : List xm_V) (σ : xm_M) (cl : Bool) : Option xm_O := match st with
  | v :: u :: r => bif xm_isl (some v) || xm_isl (some u) then none else oN (pn, L, v :: u :: v :: r, σ, cl)
  | _ => none
def xm_dupx2 (pn : Nat) (L : xm_L) (st : List xm_V) (σ : xm_M) (cl : Bool) : Option xm_O := match st with
  | v :: u :: t :: r => bif xm_isl (some v) || (xm_isl (some u) || xm_isl (some t)) then none else oN (pn, L, v :: u :: t :: v :: r, σ, cl)
  | _ => none
def xm_dup2 (pn : Nat) (L : xm_L) (st : List xm_V) (σ : xm_M) (cl : Bool) : Option xm_O := match st with
  | v :: u :: r => bif xm_isl (some v) || xm_isl (some u) then none else oN (pn, L, v :: u :: v :: u :: r, σ, cl)
  | _ => none
-- switches
def xm_tsw (pc : Nat) (dflt lo hi : Int) (offs : Array Int) (x : Int32) : Nat := ((pc : Int) + (if x.toInt < lo ∨ hi < x.toInt then dflt else (offs[(x.toInt - lo).toNat]?).getD 0)).toNat
def xm_lsw (pc : Nat) (dflt : Int) (ps : Array (Int × Int)) (x : Int32) : Nat := ((pc : Int) + Jvm.Op.lookupswitch.offset ps.toList dflt x.toInt).toNat
def xm_sw (f : Int32 → Nat) (L : xm_L) (st : List xm_V) (σ : xm_M) (cl : Bool) : Option xm_O := match st with
  | .inl x :: r => oN (f x, L, r, σ, cl)
  | _ => none
-- calls, returns
def xm_wt : List xm_V → Nat
  | [] => 0
  | v :: r => (bif xm_isl (some v) then 2 else 1) + xm_wt r
def xm_call (ml m n pn : Nat) (L : xm_L) (st : List xm_V) (σ : xm_M) (cl : Bool) : Option xm_O := match xm_pop n [] st with
  | some (as, r) => bif Nat.ble (xm_wt r) 8 && Nat.ble (xm_wt as) ml then oK m as (pn, L, r, σ, cl) else none
  | none => none
def xm_callv (ml rk m n pn : Nat) (L : xm_L) (st : List xm_V) (σ : xm_M) (cl : Bool) : Option xm_O := match xm_pop n [] st with
  | some (.inr (.inr (k, j)) :: as, r) => bif (Nat.ble (xm_wt r) 8 && Nat.ble (xm_wt (xR k j :: as)) ml) && Nat.beq k rk then oK m (xR k j :: as) (pn, L, r, σ, cl) else none
  | _ => none
-- the text XYE: charAt (201), indexOf (202)
def xm_chr (i : Int32) : Int32 := if i = 0 then 88 else if i = 1 then 89 else 69
def xm_idx (c : Int32) : Int32 := if c = 88 then 0 else if c = 89 then 1 else if c = 69 then 2 else -1
def xm_str (a pn : Nat) (L : xm_L) (st : List xm_V) (σ : xm_M) (cl : Bool) : Option xm_O := match st with
  | .inl i :: .inr (.inr (k, _)) :: r => bif Nat.beq k 33 && Nat.ble (xm_wt r) 8 then (bif Nat.beq a 201 then oC (xm_in i 3) (pn, L, xI (xm_chr i) :: r, σ, cl) else bif Nat.beq a 202 then oN (pn, L, xI (xm_idx i) :: r, σ, cl) else none) else none
  | _ => none
def xm_iret (rs : Nat) (st : List xm_V) : Option xm_O := match st with
  | [.inl v] => match rs with
    | 0 => oR true (some (xI v))
    | 1 => oR (xm_isb v) (some (xI v))
    | 2 => oR (xm_nar v == v) (some (xI v))
    | _ => none
  | _ => none
def xm_lret (st : List xm_V) : Option xm_O := match st with
  | [.inr (.inl v)] => oR true (some (xJ v))
  | _ => none
def xm_aret (st : List xm_V) : Option xm_O := match st with
  | [.inr (.inr (k, j))] => oR true (some (xR k j))
  | _ => none
def xm_vret (st : List xm_V) : Option xm_O := match st with
  | [] => oR true none
  | _ => none
def xm_thr (x : Nat) (st : List xm_V) (cl : Bool) : Option xm_O := match st, cl with
  | [], true => oT x
  | _, _ => none
-- conditions
def xm_c1 (q : Jvm.ClassFile.Cond) (x : Int32) : Bool := match q with
  | .eq => decide (x = 0)
  | .ne => decide (¬ x = 0)
  | .lt => decide (x < 0)
  | .ge => decide (0 ≤ x)
  | .gt => decide (0 < x)
  | .le => decide (x ≤ 0)
def xm_c2 (q : Jvm.ClassFile.Cond) (x y : Int32) : Bool := match q with
  | .eq => decide (x = y)
  | .ne => decide (¬ x = y)
  | .lt => decide (x < y)
  | .ge => decide (y ≤ x)
  | .gt => decide (y < x)
  | .le => decide (x ≤ y)
-- the kinds (see NOTES.md): field sorts, element sorts, lengths
abbrev xm_ftt : List (List Nat) := [
  [4, 6, 9, 11, 15, 17, 18, 19, 20, 2, 2, 2, 2, 0, 0, 0],
  [5, 0], [], [7, 8, 0], [], [], [10, 0, 0], [],
  [12, 0, 0, 0, 2, 0, 0], [],
  [14, 0, 0, 0, 0], [], [16, 0], [], [], [], [], [],
  [0, 0, 0, 22, 0, 23, 24, 0, 0, 2, 0, 25, 26, 27, 28, 0, 29, 30, 31, 2, 1, 1, 32, 0, 0, 2, 2, 2, 0, 0, 33, 2]]
abbrev xm_ak : List Nat := [0, 0, 2, 0, 2, 1, 0, 1, 0, 4, 0, 1, 0, 1, 1, 1, 1, 1, 0, 2, 2, 1, 1, 1, 1, 1, 1, 1, 1, 1, 1, 3, 5, 7]
abbrev xm_al : List Nat := [0, 0, 80, 0, 40, 40, 0, 26, 0, 8, 0, 3, 0, 8, 3, 3, 3, 3, 0, 80, 48, 48, 3, 3, 3, 3, 27, 9, 9, 3, 8, 1, 0, 0]
-- one instruction: rs: what the method returns; pc, pn: here and behind; a, b, c, d: what the tables say beside it
def xm_ex (rs : Nat) (i : Jvm.ClassFile.Instr) (pc pn a b : Nat) (c : Int32) (d : Int64) (L : xm_L) (st : List xm_V) (σ : xm_M) (cl : Bool) : Option xm_O := match i with
  | .iconst _ => oN (pn, L, xI c :: st, σ, cl)
  | .bipush _ => oN (pn, L, xI c :: st, σ, cl)
  | .sipush _ => oN (pn, L, xI c :: st, σ, cl)
  | .ldc _ => bif Nat.beq a 0 then oN (pn, L, xI c :: st, σ, cl) else oN (pn, L, xR 33 0 :: st, σ, cl)
  | .lconst _ => oN (pn, L, xJ d :: st, σ, cl)
  | .ldc2_w _ => oN (pn, L, xJ d :: st, σ, cl)
  | .iload_n _ => xm_ldi (xm_lg L a) pn L st σ cl
  | .iload _ => xm_ldi (xm_lg L a) pn L st σ cl
  | .lload_n _ => xm_ldl (xm_lg L a) pn L st σ cl
  | .lload _ => xm_ldl (xm_lg L a) pn L st σ cl
  | .aload_n _ => xm_lda (xm_lg L a) pn L st σ cl
  | .aload _ => xm_lda (xm_lg L a) pn L st σ cl
  | .istore_n _ => xm_sti a pn L st σ cl
  | .istore _ => xm_sti a pn L st σ cl
  | .lstore_n _ => xm_stl a pn L st σ cl
  | .lstore _ => xm_stl a pn L st σ cl
  | .astore_n _ => xm_sta a pn L st σ cl
  | .astore _ => xm_sta a pn L st σ cl
  | .iinc _ _ => xm_inc (xm_lg L a) a pn c L st σ cl
  | .iadd => xm_i2 (fun x y => x + y) pn L st σ cl
  | .isub => xm_i2 (fun x y => x - y) pn L st σ cl
  | .imul => xm_i2 (fun x y => x * y) pn L st σ cl
  | .iand => xm_i2 (fun x y => x &&& y) pn L st σ cl
  | .ior => xm_i2 (fun x y => x ||| y) pn L st σ cl
  | .ixor => xm_i2 (fun x y => x ^^^ y) pn L st σ cl
  | .ishl => xm_i2 (fun x y => x <<< (y &&& 31)) pn L st σ cl
  | .ishr => xm_i2 (fun x y => x >>> (y &&& 31)) pn L st σ cl
  | .idiv => xm_i2d (fun x y => x / y) pn L st σ cl
  | .irem => xm_i2d (fun x y => x - x / y * y) pn L st σ cl
  | .ineg => xm_i1 (fun x => xI (-x)) pn L st σ cl
  | .i2l => xm_i1 (fun x => xJ x.toInt64) pn L st σ cl
  | .i2c => xm_i1 (fun x => xI (xm_nc x)) pn L st σ cl
  | .l2i => xm_l1 (fun x => xI x.toInt32) pn L st σ cl
  | .ladd => xm_l2 (fun x y => x + y) pn L st σ cl
  | .lsub => xm_l2 (fun x y => x - y) pn L st σ cl
  | .lmul => xm_l2 (fun x y => x * y) pn L st σ cl
  | .land => xm_l2 (fun x y => x &&& y) pn L st σ cl
  | .lor => xm_l2 (fun x y => x ||| y) pn L st σ cl
  | .ldiv => xm_l2d (fun x y => x / y) pn L st σ cl
  | .lshl => xm_li (fun x y => x <<< (y.toInt64 &&& 63)) pn L st σ cl
  | .lushr => xm_li (fun x y => (x.toUInt64 >>> (y.toInt64.toUInt64 &&& Int64.toUInt64 63)).toInt64) pn L st σ cl
  | .lcmp => xm_ll lg_cmp pn L st σ cl
  | .dup => xm_dup pn L st σ cl
  | .pop => xm_pp pn L st σ cl
  | .dup_x1 => xm_dupx1 pn L st σ cl
  | .dup_x2 => xm_dupx2 pn L st σ cl
  | .dup2 => xm_dup2 pn L st σ cl
  | .ifCond q _ => xm_b1 (xm_c1 q) pn a L st σ cl
  | .if_icmp q _ => xm_b2 (xm_c2 q) pn a L st σ cl
  | .goto _ => oN (a, L, st, σ, cl)
  | .tableswitch dflt lo hi offs => xm_sw (xm_tsw pc dflt lo hi offs) L st σ cl
  | .lookupswitch dflt ps => xm_sw (xm_lsw pc dflt ps) L st σ cl
  | .getfield _ => xm_get a b pn (xm_nthL xm_ftt b) L st σ cl
  | .putfield _ => xm_put a b pn (xm_nthL xm_ftt b) L st σ
  | .iaload => xm_als xm_ak xm_al 1 pn L st σ cl
  | .caload => xm_als xm_ak xm_al 2 pn L st σ cl
  | .laload => xm_als xm_ak xm_al 3 pn L st σ cl
  | .aaload => xm_als xm_ak xm_al 4 pn L st σ cl
  | .iastore => xm_ast xm_ak xm_al 1 pn L st σ
  | .castore => xm_ast xm_ak xm_al 2 pn L st σ
  | .lastore => xm_ast xm_ak xm_al 3 pn L st σ
  | .arraylength => xm_alen xm_ak xm_al pn L st σ cl
  | .invokestatic _ => bif Nat.ble 200 a then xm_copy xm_ak xm_al pn L st σ else xm_call (xm_ml a) a b pn L st σ cl
  | .invokevirtual _ => bif Nat.ble 200 a then xm_str a pn L st σ cl else xm_callv (xm_ml a) (xm_rk a) a b pn L st σ cl
  | .ireturn => xm_iret rs st
  | .lreturn => xm_lret st
  | .areturn => xm_aret st
  | .return_ => xm_vret st
  | .new _ => xm_thr a st cl
  | _ => none
