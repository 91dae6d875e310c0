-- what kind of outcome an instruction gives (own work)
def xm_kd : Option xm_O → Nat
  | none => 0
  | some (.inl _) => 1
  | some (.inr (.inl _)) => 1
  | some (.inr (.inr (.inl _))) => 2
  | some (.inr (.inr (.inr (.inl _)))) => 3
  | some (.inr (.inr (.inr (.inr (.inl _))))) => 4
  | some (.inr (.inr (.inr (.inr (.inr _))))) => 5
def xm_ki : Jvm.ClassFile.Instr → Nat
  | .ifCond _ _ => 2
  | .if_icmp _ _ => 2
  | .invokevirtual _ => 3
  | .invokestatic _ => 3
  | .ireturn => 4
  | .lreturn => 4
  | .areturn => 4
  | .return_ => 4
  | .new _ => 5
  | _ => 1
theorem kd_i2 {f : Int32 → Int32 → Int32} {pn : Nat} {L : xm_L} {st : List xm_V} {σ : xm_M} {cl : Bool} : xm_kd (xm_i2 f pn L st σ cl) ≤ 1 := by
  unfold xm_i2
  split <;> first | exact Nat.le_refl 1 | exact Nat.zero_le 1
theorem kd_i2d {f : Int32 → Int32 → Int32} {pn : Nat} {L : xm_L} {st : List xm_V} {σ : xm_M} {cl : Bool} : xm_kd (xm_i2d f pn L st σ cl) ≤ 1 := by
  unfold xm_i2d
  split <;> first | exact Nat.le_refl 1 | exact Nat.zero_le 1
theorem kd_l2 {f : Int64 → Int64 → Int64} {pn : Nat} {L : xm_L} {st : List xm_V} {σ : xm_M} {cl : Bool} : xm_kd (xm_l2 f pn L st σ cl) ≤ 1 := by
  unfold xm_l2
  split <;> first | exact Nat.le_refl 1 | exact Nat.zero_le 1
theorem kd_l2d {f : Int64 → Int64 → Int64} {pn : Nat} {L : xm_L} {st : List xm_V} {σ : xm_M} {cl : Bool} : xm_kd (xm_l2d f pn L st σ cl) ≤ 1 := by
  unfold xm_l2d
  split <;> first | exact Nat.le_refl 1 | exact Nat.zero_le 1
theorem kd_li {f : Int64 → Int32 → Int64} {pn : Nat} {L : xm_L} {st : List xm_V} {σ : xm_M} {cl : Bool} : xm_kd (xm_li f pn L st σ cl) ≤ 1 := by
  unfold xm_li
  split <;> first | exact Nat.le_refl 1 | exact Nat.zero_le 1
theorem kd_ll {f : Int64 → Int64 → Int32} {pn : Nat} {L : xm_L} {st : List xm_V} {σ : xm_M} {cl : Bool} : xm_kd (xm_ll f pn L st σ cl) ≤ 1 := by
  unfold xm_ll
  split <;> first | exact Nat.le_refl 1 | exact Nat.zero_le 1
theorem kd_i1 {f : Int32 → xm_V} {pn : Nat} {L : xm_L} {st : List xm_V} {σ : xm_M} {cl : Bool} : xm_kd (xm_i1 f pn L st σ cl) ≤ 1 := by
  unfold xm_i1
  split <;> first | exact Nat.le_refl 1 | exact Nat.zero_le 1
theorem kd_l1 {f : Int64 → xm_V} {pn : Nat} {L : xm_L} {st : List xm_V} {σ : xm_M} {cl : Bool} : xm_kd (xm_l1 f pn L st σ cl) ≤ 1 := by
  unfold xm_l1
  split <;> first | exact Nat.le_refl 1 | exact Nat.zero_le 1
theorem kd_ldi {v : Option xm_V} {pn : Nat} {L : xm_L} {st : List xm_V} {σ : xm_M} {cl : Bool} : xm_kd (xm_ldi v pn L st σ cl) ≤ 1 := by
  unfold xm_ldi
  split <;> first | exact Nat.le_refl 1 | exact Nat.zero_le 1
theorem kd_ldl {v : Option xm_V} {pn : Nat} {L : xm_L} {st : List xm_V} {σ : xm_M} {cl : Bool} : xm_kd (xm_ldl v pn L st σ cl) ≤ 1 := by
  unfold xm_ldl
  split <;> first | exact Nat.le_refl 1 | exact Nat.zero_le 1
theorem kd_lda {v : Option xm_V} {pn : Nat} {L : xm_L} {st : List xm_V} {σ : xm_M} {cl : Bool} : xm_kd (xm_lda v pn L st σ cl) ≤ 1 := by
  unfold xm_lda
  split <;> first | exact Nat.le_refl 1 | exact Nat.zero_le 1
theorem kd_sti {n : Nat} {pn : Nat} {L : xm_L} {st : List xm_V} {σ : xm_M} {cl : Bool} : xm_kd (xm_sti n pn L st σ cl) ≤ 1 := by
  unfold xm_sti
  split <;> first | exact Nat.le_refl 1 | exact Nat.zero_le 1
theorem kd_stl {n : Nat} {pn : Nat} {L : xm_L} {st : List xm_V} {σ : xm_M} {cl : Bool} : xm_kd (xm_stl n pn L st σ cl) ≤ 1 := by
  unfold xm_stl
  split <;> first | exact Nat.le_refl 1 | exact Nat.zero_le 1
theorem kd_sta {n : Nat} {pn : Nat} {L : xm_L} {st : List xm_V} {σ : xm_M} {cl : Bool} : xm_kd (xm_sta n pn L st σ cl) ≤ 1 := by
  unfold xm_sta
  split <;> first | exact Nat.le_refl 1 | exact Nat.zero_le 1
theorem kd_inc {v : Option xm_V} {n : Nat} {d : Int32} {pn : Nat} {L : xm_L} {st : List xm_V} {σ : xm_M} {cl : Bool} : xm_kd (xm_inc v n pn d L st σ cl) ≤ 1 := by
  unfold xm_inc
  split <;> first | exact Nat.le_refl 1 | exact Nat.zero_le 1
theorem kd_sw {f : Int32 → Nat} {L : xm_L} {st : List xm_V} {σ : xm_M} {cl : Bool} : xm_kd (xm_sw f L st σ cl) ≤ 1 := by
  unfold xm_sw
  split <;> first | exact Nat.le_refl 1 | exact Nat.zero_le 1
theorem kd_dup {pn : Nat} {L : xm_L} {st : List xm_V} {σ : xm_M} {cl : Bool} : xm_kd (xm_dup pn L st σ cl) ≤ 1 := by
  unfold xm_dup
  split
  · rename_i v r
    cases xm_isl (some v) <;> first | exact Nat.le_refl 1 | exact Nat.zero_le 1
  · exact Nat.zero_le 1
theorem kd_pp {pn : Nat} {L : xm_L} {st : List xm_V} {σ : xm_M} {cl : Bool} : xm_kd (xm_pp pn L st σ cl) ≤ 1 := by
  unfold xm_pp
  split
  · rename_i v r
    cases xm_isl (some v) <;> first | exact Nat.le_refl 1 | exact Nat.zero_le 1
  · exact Nat.zero_le 1
theorem kd_dupx1 {pn : Nat} {L : xm_L} {st : List xm_V} {σ : xm_M} {cl : Bool} : xm_kd (xm_dupx1 pn L st σ cl) ≤ 1 := by
  unfold xm_dupx1
  split
  · rename_i v u r
    cases xm_isl (some v) || xm_isl (some u) <;> first | exact Nat.le_refl 1 | exact Nat.zero_le 1
  · exact Nat.zero_le 1
theorem kd_dupx2 {pn : Nat} {L : xm_L} {st : List xm_V} {σ : xm_M} {cl : Bool} : xm_kd (xm_dupx2 pn L st σ cl) ≤ 1 := by
  unfold xm_dupx2
  split
  · rename_i v u t r
    cases xm_isl (some v) || (xm_isl (some u) || xm_isl (some t)) <;> first | exact Nat.le_refl 1 | exact Nat.zero_le 1
  · exact Nat.zero_le 1
theorem kd_dup2 {pn : Nat} {L : xm_L} {st : List xm_V} {σ : xm_M} {cl : Bool} : xm_kd (xm_dup2 pn L st σ cl) ≤ 1 := by
  unfold xm_dup2
  split
  · rename_i v u r
    cases xm_isl (some v) || xm_isl (some u) <;> first | exact Nat.le_refl 1 | exact Nat.zero_le 1
  · exact Nat.zero_le 1
theorem kd_gf {t k j a pn : Nat} {L : xm_L} {r : List xm_V} {σ : xm_M} {cl : Bool} : xm_kd (xm_gf t k j a pn L r σ cl) ≤ 1 := by
  rcases t with _ | _ | _ | t <;> exact Nat.le_refl 1
theorem kd_pf {t k j a pn : Nat} {v : xm_V} {L : xm_L} {r : List xm_V} {σ : xm_M} : xm_kd (xm_pf t k j a pn v L r σ) ≤ 1 := by
  rcases t with _ | _ | _ | t <;> rcases v with x | x | q <;> first | exact Nat.le_refl 1 | exact Nat.zero_le 1
theorem kd_get {a b pn : Nat} {ft : List Nat} {L : xm_L} {st : List xm_V} {σ : xm_M} {cl : Bool} : xm_kd (xm_get a b pn ft L st σ cl) ≤ 1 := by
  unfold xm_get
  split
  · rename_i k j r
    cases Nat.beq k b with
    | true => exact kd_gf
    | false => exact Nat.zero_le 1
  · exact Nat.zero_le 1
theorem kd_put {a b pn : Nat} {ft : List Nat} {L : xm_L} {st : List xm_V} {σ : xm_M} : xm_kd (xm_put a b pn ft L st σ) ≤ 1 := by
  unfold xm_put
  split
  · rename_i v k j r
    cases Nat.beq k b with
    | true => exact kd_pf
    | false => exact Nat.zero_le 1
  · exact Nat.zero_le 1
theorem kd_ald {w e n k j pn : Nat} {i : Int32} {L : xm_L} {r : List xm_V} {σ : xm_M} {cl : Bool} : xm_kd (xm_ald w e n k j pn i L r σ cl) ≤ 1 := by
  unfold xm_ald
  cases Nat.beq w e with
  | true =>
    simp only [cond_true]
    split <;> exact Nat.le_refl 1
  | false =>
    simp only [cond_false]
    cases Nat.beq w 1 && Nat.beq e 5 <;> first | exact Nat.le_refl 1 | exact Nat.zero_le 1
theorem kd_als {ak al : List Nat} {w pn : Nat} {L : xm_L} {st : List xm_V} {σ : xm_M} {cl : Bool} : xm_kd (xm_als ak al w pn L st σ cl) ≤ 1 := by
  unfold xm_als
  split
  · exact kd_ald
  · exact Nat.zero_le 1
theorem kd_ast {ak al : List Nat} {w pn : Nat} {L : xm_L} {st : List xm_V} {σ : xm_M} : xm_kd (xm_ast ak al w pn L st σ) ≤ 1 := by
  unfold xm_ast
  split
  · rename_i x i k j r
    cases Nat.beq w (xm_nth ak k) with
    | true =>
      simp only [cond_true]
      split <;> first | exact Nat.le_refl 1 | exact Nat.zero_le 1
    | false => exact Nat.zero_le 1
  · rename_i x i k j r
    cases Nat.beq w 3 && Nat.beq 3 (xm_nth ak k) <;> first | exact Nat.le_refl 1 | exact Nat.zero_le 1
  · exact Nat.zero_le 1
theorem kd_alen {ak al : List Nat} {pn : Nat} {L : xm_L} {st : List xm_V} {σ : xm_M} {cl : Bool} : xm_kd (xm_alen ak al pn L st σ cl) ≤ 1 := by
  unfold xm_alen
  split
  · rename_i k j r
    cases Nat.beq (xm_nth ak k) 5 with
    | true => exact Nat.le_refl 1
    | false =>
      simp only [cond_false]
      cases Nat.beq (xm_nth ak k) 0 || Nat.beq (xm_nth ak k) 7 <;> first | exact Nat.le_refl 1 | exact Nat.zero_le 1
  · exact Nat.zero_le 1
theorem kd_str {a pn : Nat} {L : xm_L} {st : List xm_V} {σ : xm_M} {cl : Bool} : xm_kd (xm_str a pn L st σ cl) ≤ 1 := by
  unfold xm_str
  split
  · rename_i i k j r
    cases Nat.beq k 33 && Nat.ble (xm_wt r) 8 with
    | false => exact Nat.zero_le 1
    | true =>
      simp only [cond_true]
      cases Nat.beq a 201 with
      | true => exact Nat.le_refl 1
      | false =>
        simp only [cond_false]
        cases Nat.beq a 202 <;> first | exact Nat.le_refl 1 | exact Nat.zero_le 1
  · exact Nat.zero_le 1
theorem kd_copy {ak al : List Nat} {pn : Nat} {L : xm_L} {st : List xm_V} {σ : xm_M} : xm_kd (xm_copy ak al pn L st σ) ≤ 1 := by
  unfold xm_copy
  split
  · rename_i n dp k1 j1 sp k j
    cases (Nat.beq (xm_nth ak k) 1 && Nat.beq (xm_nth al k) 3) && (Nat.beq (xm_nth ak k1) 1 && Nat.beq (xm_nth al k1) 3) <;> first | exact Nat.le_refl 1 | exact Nat.zero_le 1
  · exact Nat.zero_le 1
theorem kd_b1 {f : Int32 → Bool} {pn tgt : Nat} {L : xm_L} {st : List xm_V} {σ : xm_M} {cl : Bool} : xm_kd (xm_b1 f pn tgt L st σ cl) = 0 ∨ xm_kd (xm_b1 f pn tgt L st σ cl) = 2 := by
  unfold xm_b1
  split
  · exact Or.inr rfl
  · exact Or.inl rfl
theorem kd_b2 {f : Int32 → Int32 → Bool} {pn tgt : Nat} {L : xm_L} {st : List xm_V} {σ : xm_M} {cl : Bool} : xm_kd (xm_b2 f pn tgt L st σ cl) = 0 ∨ xm_kd (xm_b2 f pn tgt L st σ cl) = 2 := by
  unfold xm_b2
  split
  · exact Or.inr rfl
  · exact Or.inl rfl
theorem kd_call {ml m n pn : Nat} {L : xm_L} {st : List xm_V} {σ : xm_M} {cl : Bool} : xm_kd (xm_call ml m n pn L st σ cl) = 0 ∨ xm_kd (xm_call ml m n pn L st σ cl) = 3 := by
  unfold xm_call
  split
  · rename_i as r hr
    cases Nat.ble (xm_wt r) 8 && Nat.ble (xm_wt as) ml with
    | true => exact Or.inr rfl
    | false => exact Or.inl rfl
  · exact Or.inl rfl
theorem kd_callv {ml rk m n pn : Nat} {L : xm_L} {st : List xm_V} {σ : xm_M} {cl : Bool} : xm_kd (xm_callv ml rk m n pn L st σ cl) = 0 ∨ xm_kd (xm_callv ml rk m n pn L st σ cl) = 3 := by
  unfold xm_callv
  split
  · rename_i k j as r hr
    cases (Nat.ble (xm_wt r) 8 && Nat.ble (xm_wt (xR k j :: as)) ml) && Nat.beq k rk with
    | true => exact Or.inr rfl
    | false => exact Or.inl rfl
  · exact Or.inl rfl
theorem kd_iret {rs : Nat} {st : List xm_V} : xm_kd (xm_iret rs st) = 0 ∨ xm_kd (xm_iret rs st) = 4 := by
  unfold xm_iret
  split
  · split <;> first | exact Or.inr rfl | exact Or.inl rfl
  · exact Or.inl rfl
theorem kd_lret {st : List xm_V} : xm_kd (xm_lret st) = 0 ∨ xm_kd (xm_lret st) = 4 := by
  unfold xm_lret
  split <;> first | exact Or.inr rfl | exact Or.inl rfl
theorem kd_aret {st : List xm_V} : xm_kd (xm_aret st) = 0 ∨ xm_kd (xm_aret st) = 4 := by
  unfold xm_aret
  split <;> first | exact Or.inr rfl | exact Or.inl rfl
theorem kd_vret {st : List xm_V} : xm_kd (xm_vret st) = 0 ∨ xm_kd (xm_vret st) = 4 := by
  unfold xm_vret
  split <;> first | exact Or.inr rfl | exact Or.inl rfl
theorem kd_thr {x : Nat} {st : List xm_V} {cl : Bool} : xm_kd (xm_thr x st cl) = 0 ∨ xm_kd (xm_thr x st cl) = 5 := by
  cases st <;> cases cl <;> first | exact Or.inl rfl | exact Or.inr rfl
theorem kd_le {z : Nat} (h : z ≤ 1) : z = 0 ∨ z = 1 := by omega
theorem kd_ex {rs pc pn a b : Nat} {c : Int32} {d : Int64} {L : xm_L} {st : List xm_V} {σ : xm_M} {cl : Bool} (i : Jvm.ClassFile.Instr) (hst : ∀ v, i = .invokestatic v ∨ i = .invokevirtual v → Nat.ble 200 a = false) : xm_kd (xm_ex rs i pc pn a b c d L st σ cl) = 0 ∨ xm_kd (xm_ex rs i pc pn a b c d L st σ cl) = xm_ki i := by
  cases i
  case ifCond => exact kd_b1
  case if_icmp => exact kd_b2
  case invokevirtual v =>
    have hv := hst v (Or.inr rfl)
    simp only [xm_ex, hv]
    exact kd_callv
  case invokestatic v =>
    have hv := hst v (Or.inl rfl)
    simp only [xm_ex, hv]
    exact kd_call
  case ireturn => exact kd_iret
  case lreturn => exact kd_lret
  case areturn => exact kd_aret
  case return_ => exact kd_vret
  case new => exact kd_thr
  case ldc =>
    simp only [xm_ex]
    cases Nat.beq a 0 <;> exact Or.inr rfl
  case iload_n => exact kd_le kd_ldi
  case iload => exact kd_le kd_ldi
  case lload_n => exact kd_le kd_ldl
  case lload => exact kd_le kd_ldl
  case aload_n => exact kd_le kd_lda
  case aload => exact kd_le kd_lda
  case istore_n => exact kd_le kd_sti
  case istore => exact kd_le kd_sti
  case lstore_n => exact kd_le kd_stl
  case lstore => exact kd_le kd_stl
  case astore_n => exact kd_le kd_sta
  case astore => exact kd_le kd_sta
  case iinc => exact kd_le kd_inc
  case ineg => exact kd_le kd_i1
  case i2l => exact kd_le kd_i1
  case i2c => exact kd_le kd_i1
  case l2i => exact kd_le kd_l1
  case ldiv => exact kd_le kd_l2d
  case idiv => exact kd_le kd_i2d
  case irem => exact kd_le kd_i2d
  case lcmp => exact kd_le kd_ll
  case lshl => exact kd_le kd_li
  case lushr => exact kd_le kd_li
  case dup => exact kd_le kd_dup
  case pop => exact kd_le kd_pp
  case dup_x1 => exact kd_le kd_dupx1
  case dup_x2 => exact kd_le kd_dupx2
  case dup2 => exact kd_le kd_dup2
  case tableswitch => exact kd_le kd_sw
  case lookupswitch => exact kd_le kd_sw
  case getfield => exact kd_le kd_get
  case putfield => exact kd_le kd_put
  case iaload => exact kd_le kd_als
  case caload => exact kd_le kd_als
  case laload => exact kd_le kd_als
  case aaload => exact kd_le kd_als
  case iastore => exact kd_le kd_ast
  case castore => exact kd_le kd_ast
  case lastore => exact kd_le kd_ast
  case arraylength => exact kd_le kd_alen
  case iadd => exact kd_le kd_i2
  case isub => exact kd_le kd_i2
  case imul => exact kd_le kd_i2
  case iand => exact kd_le kd_i2
  case ior => exact kd_le kd_i2
  case ixor => exact kd_le kd_i2
  case ishl => exact kd_le kd_i2
  case ishr => exact kd_le kd_i2
  case ladd => exact kd_le kd_l2
  case lsub => exact kd_le kd_l2
  case lmul => exact kd_le kd_l2
  case land => exact kd_le kd_l2
  case lor => exact kd_le kd_l2
  all_goals first | exact Or.inl rfl | exact Or.inr rfl
theorem kd_any {rs pc pn a b : Nat} {c : Int32} {d : Int64} {L : xm_L} {st : List xm_V} {σ : xm_M} {cl : Bool} (i : Jvm.ClassFile.Instr) : xm_kd (xm_ex rs i pc pn a b c d L st σ cl) ≤ 1 ∨ xm_kd (xm_ex rs i pc pn a b c d L st σ cl) = xm_ki i := by
  by_cases hi : ∃ v, i = .invokestatic v ∨ i = .invokevirtual v
  · obtain ⟨v, rfl | rfl⟩ := hi
    · cases ha : Nat.ble 200 a with
      | true =>
        left
        simp only [xm_ex, ha]
        exact kd_copy
      | false =>
        rcases kd_ex (.invokestatic v) (fun _ _ => ha) with h | h
        · left; rw [h]; exact Nat.zero_le 1
        · right; exact h
    · cases ha : Nat.ble 200 a with
      | true =>
        left
        simp only [xm_ex, ha]
        exact kd_str
      | false =>
        rcases kd_ex (.invokevirtual v) (fun _ _ => ha) with h | h
        · left; rw [h]; exact Nat.zero_le 1
        · right; exact h
  · rcases kd_ex i (fun v hv => absurd ⟨v, hv⟩ hi) with h | h
    · left; rw [h]; exact Nat.zero_le 1
    · right; exact h
theorem ki_of {rs pc pn a b n : Nat} {c : Int32} {d : Int64} {L : xm_L} {st : List xm_V} {σ : xm_M} {cl : Bool} {i : Jvm.ClassFile.Instr} {o : Option xm_O} (hx : xm_ex rs i pc pn a b c d L st σ cl = o) (ho : xm_kd o = n) (hn : 2 ≤ n) : xm_ki i = n := by
  rcases @kd_any rs pc pn a b c d L st σ cl i with h | h
  · rw [hx, ho] at h; omega
  · rw [hx, ho] at h; exact h.symm
theorem ki2 {i : Jvm.ClassFile.Instr} (h : xm_ki i = 2) : (∃ q v, i = .ifCond q v) ∨ ∃ q v, i = .if_icmp q v := by
  cases i <;> first | exact Or.inl ⟨_, _, rfl⟩ | exact Or.inr ⟨_, _, rfl⟩ | (simp [xm_ki] at h)
theorem ki3 {i : Jvm.ClassFile.Instr} (h : xm_ki i = 3) : (∃ v, i = .invokestatic v) ∨ ∃ v, i = .invokevirtual v := by
  cases i <;> first | exact Or.inl ⟨_, rfl⟩ | exact Or.inr ⟨_, rfl⟩ | (simp [xm_ki] at h)
theorem ki4 {i : Jvm.ClassFile.Instr} (h : xm_ki i = 4) : i = .ireturn ∨ i = .lreturn ∨ i = .areturn ∨ i = .return_ := by
  cases i <;> first | exact Or.inl rfl | exact Or.inr (Or.inl rfl) | exact Or.inr (Or.inr (Or.inl rfl)) | exact Or.inr (Or.inr (Or.inr rfl)) | (simp [xm_ki] at h)
theorem ki5 {i : Jvm.ClassFile.Instr} (h : xm_ki i = 5) : ∃ v, i = .new v := by
  cases i <;> first | exact ⟨_, rfl⟩ | (simp [xm_ki] at h)
theorem xm_ex_thr {rs pc pn a b x : Nat} {c : Int32} {d : Int64} {L : xm_L} {st : List xm_V} {σ : xm_M} {cl : Bool} {i : Jvm.ClassFile.Instr} (hx : xm_ex rs i pc pn a b c d L st σ cl = oT x) : (∃ v, i = .new v) ∧ x = a ∧ cl = true ∧ st = [] := by
  obtain ⟨v, rfl⟩ := ki5 (ki_of hx rfl (by decide))
  cases st with
  | cons u r => cases cl <;> cases hx
  | nil =>
    cases cl with
    | false => cases hx
    | true =>
      simp only [xm_ex, xm_thr, Option.some.injEq, Sum.inr.injEq] at hx
      exact ⟨⟨v, rfl⟩, hx.symm, rfl, rfl⟩
theorem xm_call_inv {ml m n pn mm pn2 : Nat} {L L2 : xm_L} {st as r : List xm_V} {σ σ2 : xm_M} {cl c2 : Bool} (hx : xm_call ml m n pn L st σ cl = oK mm as (pn2, L2, r, σ2, c2)) : mm = m ∧ pn2 = pn ∧ L2 = L ∧ σ2 = σ ∧ c2 = cl ∧ xm_pop n [] st = some (as, r) ∧ xm_wt r ≤ 8 ∧ xm_wt as ≤ ml := by
  unfold xm_call at hx
  split at hx
  · rename_i as' r' hp
    cases hz : Nat.ble (xm_wt r') 8 && Nat.ble (xm_wt as') ml with
    | false => rw [hz] at hx; cases hx
    | true =>
      rw [hz] at hx
      simp only [cond_true, Option.some.injEq, Sum.inr.injEq, Sum.inl.injEq, Prod.mk.injEq] at hx
      obtain ⟨h1, h2, h3, h4, h5, h6, h7⟩ := hx
      subst h2 h5
      simp only [Bool.and_eq_true] at hz
      exact ⟨h1.symm, h3.symm, h4.symm, h6.symm, h7.symm, hp, Nat.le_of_ble_eq_true hz.1, Nat.le_of_ble_eq_true hz.2⟩
  · cases hx
theorem xm_callv_inv {ml rk m n pn mm pn2 : Nat} {L L2 : xm_L} {st as r : List xm_V} {σ σ2 : xm_M} {cl c2 : Bool} (hx : xm_callv ml rk m n pn L st σ cl = oK mm as (pn2, L2, r, σ2, c2)) : mm = m ∧ pn2 = pn ∧ L2 = L ∧ σ2 = σ ∧ c2 = cl ∧ xm_pop n [] st = some (as, r) ∧ xm_wt r ≤ 8 ∧ xm_wt as ≤ ml ∧ ∃ j as', as = xR rk j :: as' := by
  unfold xm_callv at hx
  split at hx
  · rename_i k j as' r' hp
    cases hz : (Nat.ble (xm_wt r') 8 && Nat.ble (xm_wt (xR k j :: as')) ml) && Nat.beq k rk with
    | false => rw [hz] at hx; cases hx
    | true =>
      rw [hz] at hx
      simp only [cond_true, Option.some.injEq, Sum.inr.injEq, Sum.inl.injEq, Prod.mk.injEq] at hx
      obtain ⟨h1, h2, h3, h4, h5, h6, h7⟩ := hx
      simp only [Bool.and_eq_true] at hz
      obtain ⟨⟨z1, z2⟩, z3⟩ := hz
      have z4 := Nat.eq_of_beq_eq_true z3
      subst z4
      subst h2 h5
      exact ⟨h1.symm, h3.symm, h4.symm, h6.symm, h7.symm, hp, Nat.le_of_ble_eq_true z1, Nat.le_of_ble_eq_true z2, j, as', rfl⟩
  · cases hx
