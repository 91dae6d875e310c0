-- one instruction over whole numbers, and the calculus of runs (own work)
abbrev z_dv (x y : Int) : Prop := (0 ≤ x ∧ x ≤ 2147483647) ∧ 0 < y ∧ y ≤ 2147483647
abbrev z_dvl (x y : Int) : Prop := (0 ≤ x ∧ x ≤ 9223372036854775807) ∧ 0 < y ∧ y ≤ 9223372036854775807
def z_ex (rs : Nat) (i : Jvm.ClassFile.Instr) (pc pn a b : Nat) (c : Int32) (d : Int64) (L : zL) (st : List zV) (m : zM) (cl : Bool) : Option zO := match i with
  | .iconst _ => zoN (pn, L, zI c.toInt :: st, m, cl)
  | .bipush _ => zoN (pn, L, zI c.toInt :: st, m, cl)
  | .sipush _ => zoN (pn, L, zI c.toInt :: st, m, cl)
  | .ldc _ => bif Nat.beq a 0 then zoN (pn, L, zI c.toInt :: st, m, cl) else zoN (pn, L, zR 33 0 :: st, m, cl)
  | .lconst _ => zoN (pn, L, zJ d.toInt :: st, m, cl)
  | .ldc2_w _ => zoN (pn, L, zJ d.toInt :: st, m, cl)
  | .iload_n _ => z_ldi (z_lg L a) pn L st m cl
  | .iload _ => z_ldi (z_lg L a) pn L st m cl
  | .lload_n _ => z_ldl (z_lg L a) pn L st m cl
  | .lload _ => z_ldl (z_lg L a) pn L st m cl
  | .aload_n _ => z_lda (z_lg L a) pn L st m cl
  | .aload _ => z_lda (z_lg L a) pn L st m cl
  | .istore_n _ => z_sti a pn L st m cl
  | .istore _ => z_sti a pn L st m cl
  | .lstore_n _ => z_stl a pn L st m cl
  | .lstore _ => z_stl a pn L st m cl
  | .astore_n _ => z_sta a pn L st m cl
  | .astore _ => z_sta a pn L st m cl
  | .iinc _ _ => z_inc (z_lg L a) a pn c L st m cl
  | .iadd => z_i2 (fun x y => x + y) pn L st m cl
  | .isub => z_i2 (fun x y => x - y) pn L st m cl
  | .imul => z_i2 (fun x y => x * y) pn L st m cl
  | .iand => z_i2g (fun _ y => y = 1 ∨ y = 31 ∨ y = 255) (fun x y => x % (y + 1)) pn L st m cl
  | .ior => z_i2g (fun x y => z_p x ∧ z_p y) (fun x y => Int.ofNat (x.toNat ||| y.toNat)) pn L st m cl
  | .ixor => z_i2g (fun x y => z_p x ∧ z_p y) (fun x y => Int.ofNat (x.toNat ^^^ y.toNat)) pn L st m cl
  | .ishl => z_i2g (fun _ y => 0 ≤ y ∧ y < 32) (fun x y => x * 2 ^ y.toNat) pn L st m cl
  | .ishr => z_i2g (fun x y => zr x ∧ 0 ≤ y ∧ y < 32) (fun x y => x / 2 ^ y.toNat) pn L st m cl
  | .idiv => z_i2g z_dv (fun x y => x / y) pn L st m cl
  | .irem => z_i2g z_dv (fun x y => x % y) pn L st m cl
  | .ineg => z_i1 (fun x => zI (-x)) pn L st m cl
  | .i2l => z_i1g zr (fun x => zJ x) pn L st m cl
  | .i2c => z_i1g (fun x => 0 ≤ x ∧ x ≤ 65535) (fun x => zI x) pn L st m cl
  | .l2i => z_l1 (fun x => zI x) pn L st m cl
  | .ladd => z_l2 (fun x y => x + y) pn L st m cl
  | .lsub => z_l2 (fun x y => x - y) pn L st m cl
  | .lmul => z_l2 (fun x y => x * y) pn L st m cl
  | .land => z_l2g (fun _ y => y = 255 ∨ y = 4294967295) (fun x y => x % (y + 1)) pn L st m cl
  | .lor => z_l2g (fun x y => x % 4294967296 = 0 ∧ 0 ≤ y ∧ y < 4294967296) (fun x y => x + y) pn L st m cl
  | .ldiv => z_l2g z_dvl (fun x y => x / y) pn L st m cl
  | .lshl => z_lig (fun _ y => 0 ≤ y ∧ y < 64) (fun x y => x * 2 ^ y.toNat) pn L st m cl
  | .lushr => z_lig (fun _ y => 0 ≤ y ∧ y < 64) (fun x y => x % 18446744073709551616 / 2 ^ y.toNat) pn L st m cl
  | .lcmp => z_ll pn L st m cl
  | .dup => z_dup pn L st m cl
  | .pop => z_pp pn L st m cl
  | .dup_x1 => z_dupx1 pn L st m cl
  | .dup_x2 => z_dupx2 pn L st m cl
  | .dup2 => z_dup2 pn L st m cl
  | .ifCond q _ => z_b1 (z_c1 q) pn a L st m cl
  | .if_icmp q _ => z_b2 (z_c2 q) pn a L st m cl
  | .goto _ => zoN (a, L, st, m, cl)
  | .tableswitch dflt lo hi offs => z_sw (xm_tsw pc dflt lo hi offs) L st m cl
  | .lookupswitch dflt ps => z_sw (xm_lsw pc dflt ps) L st m cl
  | .getfield _ => z_get a b pn (xm_nthL xm_ftt b) L st m cl
  | .putfield _ => z_put a b pn (xm_nthL xm_ftt b) L st m
  | .iaload => z_als xm_ak xm_al 1 pn L st m cl
  | .caload => z_als xm_ak xm_al 2 pn L st m cl
  | .laload => z_als xm_ak xm_al 3 pn L st m cl
  | .aaload => z_als xm_ak xm_al 4 pn L st m cl
  | .iastore => z_ast xm_ak xm_al 1 pn L st m
  | .castore => z_ast xm_ak xm_al 2 pn L st m
  | .lastore => z_ast xm_ak xm_al 3 pn L st m
  | .arraylength => z_alen xm_ak xm_al pn L st m cl
  | .invokestatic _ => bif Nat.ble 200 a then z_copy xm_ak xm_al pn L st m else z_call (xm_ml a) a b pn L st m cl
  | .invokevirtual _ => bif Nat.ble 200 a then z_str a pn L st m cl else z_callv (xm_ml a) (xm_rk a) a b pn L st m cl
  | .ireturn => z_iret rs st
  | .lreturn => z_lret st
  | .areturn => z_aret st
  | .return_ => z_vret st
  | .new _ => z_thr a st cl
  | _ => none
theorem z_cI (c : Int32) (st : List zV) : xI c :: z_st st = z_st (zI c.toInt :: st) := by simp [z_st, z_v]
theorem z_cJ (c : Int64) (st : List zV) : xJ c :: z_st st = z_st (zJ c.toInt :: st) := by simp [z_st, z_v]
theorem z_ex_ok (rs : Nat) (i : Jvm.ClassFile.Instr) (pc pn a b : Nat) (c : Int32) (d : Int64) (L : zL) (st : List zV) (m : zM) (cl : Bool) : z_ok (z_ex rs i pc pn a b c d L st m cl) (xm_ex rs i pc pn a b c d (z_L L) (z_st st) (z_m m) cl) := by
  unfold z_ex
  split <;> dsimp only [xm_ex]
  case h_1 | h_2 | h_3 => rw [z_cI]; rfl
  case h_4 =>
    cases Nat.beq a 0 with
    | true => dsimp only [cond_true]; rw [z_cI]; rfl
    | false => rfl
  case h_5 | h_6 => rw [z_cJ]; rfl
  case h_7 | h_8 => rw [z_lg_L]; exact z_ldi_ok _ _ _ _ _ _
  case h_9 | h_10 => rw [z_lg_L]; exact z_ldl_ok _ _ _ _ _ _
  case h_11 | h_12 => rw [z_lg_L]; exact z_lda_ok _ _ _ _ _ _
  case h_13 | h_14 => exact z_sti_ok _ _ _ _ _ _
  case h_15 | h_16 => exact z_stl_ok _ _ _ _ _ _
  case h_17 | h_18 => exact z_sta_ok _ _ _ _ _ _
  case h_19 => rw [z_lg_L]; exact z_inc_ok _ _ _ _ _ _ _ _
  case h_20 => exact z_i2_ok (fun x y => (Int32.ofInt_add x y).symm) _ _ _ _ _
  case h_21 => exact z_i2_ok (fun x y => (Int32.ofInt_sub x y).symm) _ _ _ _ _
  case h_22 => exact z_i2_ok (fun x y => (Int32.ofInt_mul x y).symm) _ _ _ _ _
  case h_23 => exact z_i2g_ok (fun x y h => z_and h) _ _ _ _ _
  case h_24 => exact z_i2g_ok (fun x y h => z_or h.1 h.2) _ _ _ _ _
  case h_25 => exact z_i2g_ok (fun x y h => z_xor h.1 h.2) _ _ _ _ _
  case h_26 => exact z_i2g_ok (fun x y h => z_shl h) _ _ _ _ _
  case h_27 => exact z_i2g_ok (fun x y h => z_shr h.1 h.2) _ _ _ _ _
  case h_28 => exact z_i2d_ok (fun x y h => ⟨z_div h, z_ne0 h.2⟩) _ _ _ _ _
  case h_29 => exact z_i2d_ok (fun x y h => ⟨z_rem h, z_ne0 h.2⟩) _ _ _ _ _
  case h_30 => exact z_i1_ok (fun x => congrArg xI (Int32.ofInt_neg x).symm) _ _ _ _ _
  case h_31 => exact z_i1g_ok (fun x h => congrArg xJ (z_i2l h)) _ _ _ _ _
  case h_32 => exact z_i1g_ok (fun x h => congrArg xI (z_nc h)) _ _ _ _ _
  case h_33 => exact z_l1_ok (fun x => congrArg xI (z_l2i x)) _ _ _ _ _
  case h_34 => exact z_l2_ok (fun x y => (Int64.ofInt_add x y).symm) _ _ _ _ _
  case h_35 => exact z_l2_ok (fun x y => (Int64.ofInt_sub x y).symm) _ _ _ _ _
  case h_36 => exact z_l2_ok (fun x y => (Int64.ofInt_mul x y).symm) _ _ _ _ _
  case h_37 => exact z_l2g_ok (fun x y h => z_andl h) _ _ _ _ _
  case h_38 => exact z_l2g_ok (fun x y h => z_orl h) _ _ _ _ _
  case h_39 => exact z_l2d_ok (fun x y h => ⟨z_divl h, z_ne0l h.2⟩) _ _ _ _ _
  case h_40 => exact z_lig_ok (fun x y h => z_shll h) _ _ _ _ _
  case h_41 => exact z_lig_ok (fun x y h => z_ushr h) _ _ _ _ _
  case h_42 => exact z_ll_ok _ _ _ _ _
  case h_43 => exact z_dup_ok _ _ _ _ _
  case h_44 => exact z_pp_ok _ _ _ _ _
  case h_45 => exact z_dupx1_ok _ _ _ _ _
  case h_46 => exact z_dupx2_ok _ _ _ _ _
  case h_47 => exact z_dup2_ok _ _ _ _ _
  case h_48 => exact z_b1_ok _ _ _ _ _ _ _
  case h_49 => exact z_b2_ok _ _ _ _ _ _ _
  case h_50 => rfl
  case h_51 => exact z_sw_ok _ _ _ _ _
  case h_52 => exact z_sw_ok _ _ _ _ _
  case h_53 => exact z_get_ok _ _ _ _ _ _ _ _
  case h_54 => exact z_put_ok _ _ _ _ _ _ _
  case h_55 | h_56 | h_57 | h_58 => exact z_als_ok _ _ _ _ _ _ _ _
  case h_59 | h_60 | h_61 => exact z_ast_ok _ _ _ _ _ _ _
  case h_62 => exact z_alen_ok _ _ _ _ _ _ _
  case h_63 =>
    cases Nat.ble 200 a with
    | true => exact z_copy_ok _ _ _ _ _ _
    | false => exact z_call_ok _ _ _ _ _ _ _ _
  case h_64 =>
    cases Nat.ble 200 a with
    | true => exact z_str_ok _ _ _ _ _ _
    | false => exact z_callv_ok _ _ _ _ _ _ _ _ _
  case h_65 => exact z_iret_ok _ _
  case h_66 => exact z_lret_ok _
  case h_67 => exact z_aret_ok _
  case h_68 => exact z_vret_ok _
  case h_69 => exact z_thr_ok _ _ _
  all_goals exact trivial
def z_stp (k pc : Nat) (L : zL) (st : List zV) (m : zM) (cl : Bool) : Option zO := match xm_row k pc with
  | some (_, i, n, a, b, c, d) => z_ex (xm_rs k) i pc (pc + n) a b c d L st m cl
  | none => none
def z_step (k : Nat) : zS → Option zO
  | (pc, L, st, m, cl) => z_stp k pc L st m cl
theorem z_step_ok (k : Nat) (s : zS) : z_ok (z_step k s) (xm_step k (z_s s)) := by
  obtain ⟨pc, L, st, m, cl⟩ := s
  show z_ok (z_stp k pc L st m cl) (xm_stp k pc (z_L L) (z_st st) (z_m m) cl)
  unfold z_stp xm_stp
  rcases xm_row k pc with _ | ⟨_, i, n, a, b, c, d⟩
  · exact trivial
  · exact z_ex_ok _ _ _ _ _ _ _ _ _ _ _ _
abbrev zRes : Type := Option zV ⊕ Nat
def z_r : zRes → Option xm_V ⊕ Nat
  | .inl v => .inl (z_o v)
  | .inr x => .inr x
abbrev zQ : Type := zRes → zM → Bool → Nat → Prop
def zT (k : Nat) (s : zS) (Q : zQ) : Prop := xT k (z_s s) (fun r => ∃ o m, r.1 = z_r o ∧ r.2.1 = z_m m ∧ Q o m r.2.2.1 r.2.2.2)
theorem zT.mono {k : Nat} {s : zS} {Q Q' : zQ} (h : zT k s Q) (hQ : ∀ o m c e, Q o m c e → Q' o m c e) : zT k s Q' :=
  xT.mono h fun _ ⟨o, m, h1, h2, h3⟩ => ⟨o, m, h1, h2, hQ _ _ _ _ h3⟩
theorem zT.nx {k : Nat} {s t : zS} {Q : zQ} (hs : z_step k s = zoN t) (h : zT k t Q) : zT k s Q := by
  have h0 := z_step_ok k s
  rw [hs] at h0
  exact xT.nx h0 h
def z_it : Nat → Nat → zS → Option zS
  | 0, _, s => some s
  | n + 1, k, s => match z_step k s with
    | some (.inl t) => z_it n k t
    | _ => none
theorem zT.it (n : Nat) {k : Nat} {s t : zS} {Q : zQ} (hs : z_it n k s = some t) (h : zT k t Q) : zT k s Q := by
  induction n generalizing s with
  | zero => cases hs; exact h
  | succ n ih =>
    rw [z_it] at hs
    cases ho : z_step k s with
    | none => rw [ho] at hs; cases hs
    | some o =>
      rw [ho] at hs
      rcases o with u | u
      · exact zT.nx ho (ih hs)
      · cases hs
theorem zT.chk {k : Nat} {s t : zS} {p : Prop} {Q : zQ} (hs : z_step k s = zoC p t) (hp : p) (h : zT k t Q) : zT k s Q := by
  have h0 := z_step_ok k s
  rw [hs] at h0
  rcases h0 hp with e | e
  · exact xT.nx e h
  · exact xT.chk e rfl h
theorem zT.br {k : Nat} {s t u : zS} {g p : Prop} {Q : zQ} (hs : z_step k s = zoB g p t u) (hg : g) (h1 : p → zT k t Q) (h2 : ¬ p → zT k u Q) : zT k s Q := by
  have h0 := z_step_ok k s
  rw [hs] at h0
  obtain ⟨b, e, hb⟩ := h0 hg
  exact xT.br e (fun e1 => h1 (hb.1 e1)) (fun e1 => h2 (fun hp => by rw [hb.2 hp] at e1; cases e1))
theorem zT.ret {k : Nat} {s : zS} {p : Prop} {v : Option zV} {Q : zQ} (hs : z_step k s = zoR p v) (hp : p) (h : Q (.inl v) s.2.2.2.1 s.2.2.2.2 0) : zT k s Q := by
  have h0 := z_step_ok k s
  rw [hs] at h0
  exact xT.ret (h0 hp) rfl ⟨.inl v, s.2.2.2.1, rfl, rfl, h⟩
theorem zT.thr {k x : Nat} {s : zS} {Q : zQ} (hs : z_step k s = zoT x) (h : Q (.inr x) s.2.2.2.1 true 1) : zT k s Q := by
  have h0 := z_step_ok k s
  rw [hs] at h0
  exact xT.thr h0 ⟨.inr x, s.2.2.2.1, rfl, rfl, h⟩
-- a call
def z_pl : List zV → zL
  | [] => []
  | v :: r => bif z_isl (some v) then some v :: none :: z_pl r else some v :: z_pl r
def z_pad : Nat → zL → zL
  | 0, _ => []
  | n + 1, [] => none :: z_pad n []
  | n + 1, a :: r => a :: z_pad n r
def z_en (m : Nat) (as : List zV) (M : zM) : zS := (0, z_pad (xm_ml m) (z_pl as), [], M, true)
theorem z_pl_ok : ∀ as : List zV, xm_pl (z_st as) = z_L (z_pl as)
  | [] => rfl
  | v :: r => by
    show (bif xm_isl (some (z_v v)) then some (z_v v) :: none :: xm_pl (z_st r) else some (z_v v) :: xm_pl (z_st r)) = z_L (bif z_isl (some v) then some v :: none :: z_pl r else some v :: z_pl r)
    rw [z_isl_v, z_pl_ok r]
    cases z_isl (some v) <;> rfl
theorem z_pad_ok : ∀ (n : Nat) (L : zL), xm_pad n (z_L L) = z_L (z_pad n L)
  | 0, _ => rfl
  | n + 1, [] => congrArg (none :: ·) (z_pad_ok n [])
  | n + 1, a :: r => congrArg (z_o a :: ·) (z_pad_ok n r)
theorem z_en_ok (m : Nat) (as : List zV) (M : zM) : xm_en m (z_st as) (z_m M) = z_s (z_en m as M) := by
  simp only [xm_en, z_pl_ok, z_pad_ok]; rfl
theorem z_st_app (v : Option zV) (st : List zV) : (z_o v).toList ++ z_st st = z_st (v.toList ++ st) := by cases v <;> rfl
theorem zT.callg {k m pc pn : Nat} {s : zL × List zV × zM × Bool} {as : List zV} {L : zL} {st : List zV} {M : zM} {cl : Bool} {P Q : zQ} (hs : z_step k (pc, s) = zoK m as (pn, L, st, M, cl)) (hm : zT m (z_en m as M) P)
    (hr : ∀ o M' c e, P o M' c e → (∃ v, o = .inl v ∧ zT k (pn, L, v.toList ++ st, M', cl && c) (fun o m' c' e' => Q o m' c' (e + e'))) ∨
      (∃ x a, o = .inr x ∧ xm_hd k pc x = some a ∧ Q (.inl (some (zI a.toInt))) M' (cl && c) e) ∨
      (∃ x, o = .inr x ∧ xm_hd k pc x = none ∧ ((cl && c) && xm_nh k) = true ∧ Q (.inr x) M' true e)) : zT k (pc, s) Q := by
  have h0 := z_step_ok k (pc, s)
  rw [hs] at h0
  unfold zT at hm
  rw [← z_en_ok] at hm
  refine xT.call h0 hm ?_
  rintro ⟨r1, r2, c, e⟩ ⟨o, M', e1, e2, hP⟩
  dsimp only at e1 e2 hP
  subst e1; subst e2
  rcases hr o M' c e hP with ⟨v, e3, h3⟩ | ⟨x, a, e3, e4, h3⟩ | ⟨x, e3, e4, e5, h3⟩
  · subst e3
    refine Or.inl ⟨z_o v, rfl, ?_⟩
    have h4 : xT k (z_s (pn, L, v.toList ++ st, M', cl && c)) _ := h3
    rw [show z_s (pn, L, v.toList ++ st, M', cl && c) = (pn, z_L L, (z_o v).toList ++ z_st st, z_m M', cl && c) by rw [z_st_app]; rfl] at h4
    exact h4
  · subst e3
    exact Or.inr (Or.inl ⟨x, a, rfl, e4, .inl (some (zI a.toInt)), M', by simp [z_r, z_o, z_v], rfl, h3⟩)
  · subst e3
    exact Or.inr (Or.inr ⟨x, rfl, e4, e5, .inr x, M', rfl, rfl, h3⟩)
-- a method that comes back
def zF (k : Nat) (as : List zV) (M : zM) (R : Option zV → zM → Prop) : Prop := zT k (z_en k as M) (fun o M' _ e => match o with
  | .inl v => e = 0 ∧ R v M'
  | .inr _ => False)
theorem zF.mono {k : Nat} {as : List zV} {M : zM} {R R' : Option zV → zM → Prop} (h : zF k as M R) (hR : ∀ v m, R v m → R' v m) : zF k as M R' :=
  zT.mono h fun o m _ e hq => by
    cases o with
    | inl v => exact ⟨hq.1, hR v m hq.2⟩
    | inr x => exact hq
theorem zT.call {k m pc pn : Nat} {s : zL × List zV × zM × Bool} {as : List zV} {L : zL} {st : List zV} {M : zM} {cl : Bool} {Q : zQ} (hs : z_step k (pc, s) = zoK m as (pn, L, st, M, cl))
    (hm : zF m as M (fun v M' => ∀ cl', zT k (pn, L, v.toList ++ st, M', cl') Q)) : zT k (pc, s) Q := by
  refine zT.callg hs hm fun o M' c e hq => ?_
  cases o with
  | inl v =>
    obtain ⟨h1, h2⟩ := hq
    subst h1
    refine Or.inl ⟨v, rfl, zT.mono (h2 _) fun o m' c' e' h => ?_⟩
    rw [Nat.zero_add]; exact h
  | inr x => exact hq.elim
-- a method that comes back or throws
def zX (k : Nat) (as : List zV) (M : zM) (R : Option zV → zM → Bool → Prop) (T : Nat → zM → Prop) : Prop := zT k (z_en k as M) (fun o M' c e => match o with
  | .inl v => e = 0 ∧ R v M' c
  | .inr x => c = true ∧ e = 1 ∧ T x M')
theorem zT.callx {k m pc pn : Nat} {s : zL × List zV × zM × Bool} {as : List zV} {L : zL} {st : List zV} {M : zM} {cl : Bool} {Q : zQ} (hs : z_step k (pc, s) = zoK m as (pn, L, st, M, cl)) (hn : xm_nh k = true) (hl : xm_hdl k = [])
    (hm : zX m as M (fun v M' c => zT k (pn, L, v.toList ++ st, M', cl && c) Q) (fun x M' => cl = true ∧ Q (.inr x) M' true 1)) : zT k (pc, s) Q := by
  refine zT.callg hs hm fun o M' c e hq => ?_
  cases o with
  | inl v =>
    obtain ⟨h1, h2⟩ := hq
    subst h1
    refine Or.inl ⟨v, rfl, zT.mono h2 fun o m' c' e' h => ?_⟩
    rw [Nat.zero_add]; exact h
  | inr x =>
    obtain ⟨h1, h2, h3, h4⟩ := hq
    subst h1; subst h2; subst h3
    exact Or.inr (Or.inr ⟨x, rfl, by unfold xm_hd; rw [hl]; rfl, by rw [hn]; rfl, h4⟩)
theorem zT.callh {k m pc pn : Nat} {s : zL × List zV × zM × Bool} {as : List zV} {L : zL} {st : List zV} {M : zM} {cl : Bool} {Q : zQ} (hs : z_step k (pc, s) = zoK m as (pn, L, st, M, cl))
    (hm : zX m as M (fun v M' c => zT k (pn, L, v.toList ++ st, M', cl && c) Q) (fun x M' => ∃ a, xm_hd k pc x = some a ∧ Q (.inl (some (zI a.toInt))) M' cl 1)) : zT k (pc, s) Q := by
  refine zT.callg hs hm fun o M' c e hq => ?_
  cases o with
  | inl v =>
    obtain ⟨h1, h2⟩ := hq
    subst h1
    refine Or.inl ⟨v, rfl, zT.mono h2 fun o m' c' e' h => ?_⟩
    rw [Nat.zero_add]; exact h
  | inr x =>
    obtain ⟨h1, h2, a, h3, h4⟩ := hq
    subst h1; subst h2
    exact Or.inr (Or.inl ⟨x, a, rfl, h3, by rw [Bool.and_true]; exact h4⟩)
theorem zF.toX {k : Nat} {as : List zV} {M : zM} {R : Option zV → zM → Bool → Prop} {T : Nat → zM → Prop} (h : zF k as M (fun v m => ∀ c, R v m c)) : zX k as M R T :=
  zT.mono h fun o m c e hq => by
    cases o with
    | inl v => exact ⟨hq.1, hq.2 c⟩
    | inr x => exact hq.elim
-- a switch
theorem z_tsw_d {pc : Nat} {dflt lo hi : Int} {offs : Array Int} {x : Int} (hx : zr x) (h : x < lo ∨ hi < x) : xm_tsw pc dflt lo hi offs (zi x) = ((pc : Int) + dflt).toNat := by
  simp only [xm_tsw, z_ti hx, h, if_true]
