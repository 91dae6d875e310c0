-- The small constructors (written by gen/k.py)
theorem kd_Text_0 : decode prog_7_method_1_code 0 = .ok (.aload_n 0, 1) := by decide +kernel
theorem kd_Text_1 : decode prog_7_method_1_code 1 = .ok (.invokespecial 1, 3) := by decide +kernel
theorem kd_Text_4 : decode prog_7_method_1_code 4 = .ok (.aload_n 0, 1) := by decide +kernel
theorem kd_Text_5 : decode prog_7_method_1_code 5 = .ok (.bipush 80, 2) := by decide +kernel
theorem kd_Text_7 : decode prog_7_method_1_code 7 = .ok (.newarray .char, 2) := by decide +kernel
theorem kd_Text_9 : decode prog_7_method_1_code 9 = .ok (.putfield 9, 3) := by decide +kernel
theorem kd_Text_12 : decode prog_7_method_1_code 12 = .ok (.aload_n 0, 1) := by decide +kernel
theorem kd_Text_13 : decode prog_7_method_1_code 13 = .ok (.iconst 0, 1) := by decide +kernel
theorem kd_Text_14 : decode prog_7_method_1_code 14 = .ok (.putfield 13, 3) := by decide +kernel
theorem kd_Text_17 : decode prog_7_method_1_code 17 = .ok (.return_, 1) := by decide +kernel
theorem kd_Frame_0 : decode prog_4_method_1_code 0 = .ok (.aload_n 0, 1) := by decide +kernel
theorem kd_Frame_1 : decode prog_4_method_1_code 1 = .ok (.invokespecial 3, 3) := by decide +kernel
theorem kd_Frame_4 : decode prog_4_method_1_code 4 = .ok (.aload_n 0, 1) := by decide +kernel
theorem kd_Frame_5 : decode prog_4_method_1_code 5 = .ok (.bipush 40, 2) := by decide +kernel
theorem kd_Frame_7 : decode prog_4_method_1_code 7 = .ok (.newarray .char, 2) := by decide +kernel
theorem kd_Frame_9 : decode prog_4_method_1_code 9 = .ok (.putfield 11, 3) := by decide +kernel
theorem kd_Frame_12 : decode prog_4_method_1_code 12 = .ok (.aload_n 0, 1) := by decide +kernel
theorem kd_Frame_13 : decode prog_4_method_1_code 13 = .ok (.bipush 40, 2) := by decide +kernel
theorem kd_Frame_15 : decode prog_4_method_1_code 15 = .ok (.newarray .int, 2) := by decide +kernel
theorem kd_Frame_17 : decode prog_4_method_1_code 17 = .ok (.putfield 15, 3) := by decide +kernel
theorem kd_Frame_20 : decode prog_4_method_1_code 20 = .ok (.aload_n 0, 1) := by decide +kernel
theorem kd_Frame_21 : decode prog_4_method_1_code 21 = .ok (.iconst 0, 1) := by decide +kernel
theorem kd_Frame_22 : decode prog_4_method_1_code 22 = .ok (.putfield 19, 3) := by decide +kernel
theorem kd_Frame_25 : decode prog_4_method_1_code 25 = .ok (.return_, 1) := by decide +kernel
theorem kd_Command_0 : decode prog_3_method_1_code 0 = .ok (.aload_n 0, 1) := by decide +kernel
theorem kd_Command_1 : decode prog_3_method_1_code 1 = .ok (.invokespecial 3, 3) := by decide +kernel
theorem kd_Command_4 : decode prog_3_method_1_code 4 = .ok (.aload_n 0, 1) := by decide +kernel
theorem kd_Command_5 : decode prog_3_method_1_code 5 = .ok (.bipush 26, 2) := by decide +kernel
theorem kd_Command_7 : decode prog_3_method_1_code 7 = .ok (.newarray .int, 2) := by decide +kernel
theorem kd_Command_9 : decode prog_3_method_1_code 9 = .ok (.putfield 11, 3) := by decide +kernel
theorem kd_Command_12 : decode prog_3_method_1_code 12 = .ok (.aload_n 0, 1) := by decide +kernel
theorem kd_Command_13 : decode prog_3_method_1_code 13 = .ok (.iconst 0, 1) := by decide +kernel
theorem kd_Command_14 : decode prog_3_method_1_code 14 = .ok (.putfield 15, 3) := by decide +kernel
theorem kd_Command_17 : decode prog_3_method_1_code 17 = .ok (.aload_n 0, 1) := by decide +kernel
theorem kd_Command_18 : decode prog_3_method_1_code 18 = .ok (.iconst 0, 1) := by decide +kernel
theorem kd_Command_19 : decode prog_3_method_1_code 19 = .ok (.putfield 19, 3) := by decide +kernel
theorem kd_Command_22 : decode prog_3_method_1_code 22 = .ok (.return_, 1) := by decide +kernel
theorem kd_Slots_0 : decode prog_6_method_1_code 0 = .ok (.aload_n 0, 1) := by decide +kernel
theorem kd_Slots_1 : decode prog_6_method_1_code 1 = .ok (.invokespecial 3, 3) := by decide +kernel
theorem kd_Slots_4 : decode prog_6_method_1_code 4 = .ok (.aload_n 0, 1) := by decide +kernel
theorem kd_Slots_5 : decode prog_6_method_1_code 5 = .ok (.bipush 8, 2) := by decide +kernel
theorem kd_Slots_7 : decode prog_6_method_1_code 7 = .ok (.newarray .int, 2) := by decide +kernel
theorem kd_Slots_9 : decode prog_6_method_1_code 9 = .ok (.putfield 11, 3) := by decide +kernel
theorem kd_Slots_12 : decode prog_6_method_1_code 12 = .ok (.aload_n 0, 1) := by decide +kernel
theorem kd_Slots_13 : decode prog_6_method_1_code 13 = .ok (.iconst 0, 1) := by decide +kernel
theorem kd_Slots_14 : decode prog_6_method_1_code 14 = .ok (.putfield 15, 3) := by decide +kernel
theorem kd_Slots_17 : decode prog_6_method_1_code 17 = .ok (.return_, 1) := by decide +kernel
theorem kd_Block_0 : decode prog_2_method_1_code 0 = .ok (.aload_n 0, 1) := by decide +kernel
theorem kd_Block_1 : decode prog_2_method_1_code 1 = .ok (.invokespecial 3, 3) := by decide +kernel
theorem kd_Block_4 : decode prog_2_method_1_code 4 = .ok (.aload_n 0, 1) := by decide +kernel
theorem kd_Block_5 : decode prog_2_method_1_code 5 = .ok (.iconst 3, 1) := by decide +kernel
theorem kd_Block_6 : decode prog_2_method_1_code 6 = .ok (.newarray .int, 2) := by decide +kernel
theorem kd_Block_8 : decode prog_2_method_1_code 8 = .ok (.putfield 9, 3) := by decide +kernel
theorem kd_Block_11 : decode prog_2_method_1_code 11 = .ok (.aload_n 0, 1) := by decide +kernel
theorem kd_Block_12 : decode prog_2_method_1_code 12 = .ok (.iconst 0, 1) := by decide +kernel
theorem kd_Block_13 : decode prog_2_method_1_code 13 = .ok (.putfield 15, 3) := by decide +kernel
theorem kd_Block_16 : decode prog_2_method_1_code 16 = .ok (.aload_n 0, 1) := by decide +kernel
theorem kd_Block_17 : decode prog_2_method_1_code 17 = .ok (.iconst 0, 1) := by decide +kernel
theorem kd_Block_18 : decode prog_2_method_1_code 18 = .ok (.putfield 19, 3) := by decide +kernel
theorem kd_Block_21 : decode prog_2_method_1_code 21 = .ok (.aload_n 0, 1) := by decide +kernel
theorem kd_Block_22 : decode prog_2_method_1_code 22 = .ok (.iconst 0, 1) := by decide +kernel
theorem kd_Block_23 : decode prog_2_method_1_code 23 = .ok (.putfield 22, 3) := by decide +kernel
theorem kd_Block_26 : decode prog_2_method_1_code 26 = .ok (.aload_n 0, 1) := by decide +kernel
theorem kd_Block_27 : decode prog_2_method_1_code 27 = .ok (.iconst 0, 1) := by decide +kernel
theorem kd_Block_28 : decode prog_2_method_1_code 28 = .ok (.putfield 25, 3) := by decide +kernel
theorem kd_Block_31 : decode prog_2_method_1_code 31 = .ok (.return_, 1) := by decide +kernel
theorem kd_Row_0 : decode prog_5_method_1_code 0 = .ok (.aload_n 0, 1) := by decide +kernel
theorem kd_Row_1 : decode prog_5_method_1_code 1 = .ok (.invokespecial 1, 3) := by decide +kernel
theorem kd_Row_4 : decode prog_5_method_1_code 4 = .ok (.aload_n 0, 1) := by decide +kernel
theorem kd_Row_5 : decode prog_5_method_1_code 5 = .ok (.bipush 8, 2) := by decide +kernel
theorem kd_Row_7 : decode prog_5_method_1_code 7 = .ok (.anewarray 9, 3) := by decide +kernel
theorem kd_Row_10 : decode prog_5_method_1_code 10 = .ok (.putfield 11, 3) := by decide +kernel
theorem kd_Row_13 : decode prog_5_method_1_code 13 = .ok (.aload_n 0, 1) := by decide +kernel
theorem kd_Row_14 : decode prog_5_method_1_code 14 = .ok (.iconst 0, 1) := by decide +kernel
theorem kd_Row_15 : decode prog_5_method_1_code 15 = .ok (.putfield 15, 3) := by decide +kernel
theorem kd_Row_18 : decode prog_5_method_1_code 18 = .ok (.aload_n 0, 1) := by decide +kernel
theorem kd_Row_19 : decode prog_5_method_1_code 19 = .ok (.iconst 0, 1) := by decide +kernel
theorem kd_Row_20 : decode prog_5_method_1_code 20 = .ok (.putfield 19, 3) := by decide +kernel
theorem kd_Row_23 : decode prog_5_method_1_code 23 = .ok (.aload_n 0, 1) := by decide +kernel
theorem kd_Row_24 : decode prog_5_method_1_code 24 = .ok (.iconst 0, 1) := by decide +kernel
theorem kd_Row_25 : decode prog_5_method_1_code 25 = .ok (.putfield 22, 3) := by decide +kernel
theorem kd_Row_28 : decode prog_5_method_1_code 28 = .ok (.aload_n 0, 1) := by decide +kernel
theorem kd_Row_29 : decode prog_5_method_1_code 29 = .ok (.iconst 0, 1) := by decide +kernel
theorem kd_Row_30 : decode prog_5_method_1_code 30 = .ok (.putfield 26, 3) := by decide +kernel
theorem kd_Row_33 : decode prog_5_method_1_code 33 = .ok (.aload_n 0, 1) := by decide +kernel
theorem kd_Row_34 : decode prog_5_method_1_code 34 = .ok (.iconst 0, 1) := by decide +kernel
theorem kd_Row_35 : decode prog_5_method_1_code 35 = .ok (.putfield 29, 3) := by decide +kernel
theorem kd_Row_38 : decode prog_5_method_1_code 38 = .ok (.aload_n 0, 1) := by decide +kernel
theorem kd_Row_39 : decode prog_5_method_1_code 39 = .ok (.iload_n 1, 1) := by decide +kernel
theorem kd_Row_40 : decode prog_5_method_1_code 40 = .ok (.putfield 32, 3) := by decide +kernel
theorem kd_Row_43 : decode prog_5_method_1_code 43 = .ok (.iconst 0, 1) := by decide +kernel
theorem kd_Row_44 : decode prog_5_method_1_code 44 = .ok (.istore_n 2, 1) := by decide +kernel
theorem kd_Row_45 : decode prog_5_method_1_code 45 = .ok (.iload_n 2, 1) := by decide +kernel
theorem kd_Row_46 : decode prog_5_method_1_code 46 = .ok (.bipush 8, 2) := by decide +kernel
theorem kd_Row_48 : decode prog_5_method_1_code 48 = .ok (.if_icmp .ge 22, 3) := by decide +kernel
theorem kd_Row_51 : decode prog_5_method_1_code 51 = .ok (.aload_n 0, 1) := by decide +kernel
theorem kd_Row_52 : decode prog_5_method_1_code 52 = .ok (.getfield 11, 3) := by decide +kernel
theorem kd_Row_55 : decode prog_5_method_1_code 55 = .ok (.iload_n 2, 1) := by decide +kernel
theorem kd_Row_56 : decode prog_5_method_1_code 56 = .ok (.new 9, 3) := by decide +kernel
theorem kd_Row_59 : decode prog_5_method_1_code 59 = .ok (.dup, 1) := by decide +kernel
theorem kd_Row_60 : decode prog_5_method_1_code 60 = .ok (.invokespecial 35, 3) := by decide +kernel
theorem kd_Row_63 : decode prog_5_method_1_code 63 = .ok (.aastore, 1) := by decide +kernel
theorem kd_Row_64 : decode prog_5_method_1_code 64 = .ok (.iinc 2 1, 3) := by decide +kernel
theorem kd_Row_67 : decode prog_5_method_1_code 67 = .ok (.goto (-22), 3) := by decide +kernel
theorem kd_Row_70 : decode prog_5_method_1_code 70 = .ok (.return_, 1) := by decide +kernel
set_option maxHeartbeats 4000000 in
set_option maxRecDepth 100000 in
theorem kc_Text (l : Launch) (D : va_G) (cs : Nat → ClassId) (h0 sz : Nat) : Met l ⟨"LayerFeeder$Text", "<init>", "()V"⟩ [.code ⟨"LayerFeeder$Text", "<init>", "()V"⟩ prog_7_method_1_code 1 none] ({ frames := 1, cells := 1, slots := 80, locals := 12 }) (kPre D cs [.ref h0] sz [(h0, .inr (1, [.null, .int 0]))]) (kPost D [(h0, .inr (1, [.null, .int 0]))] sz (fun u => [(h0, .inr (1, [.ref (u 0), .int 0])), ((u 0), .inl (cs 2, 80, .inl (fun _ => 0)))])) 1 80 (va_A [(h0, .inr (1, [.null, .int 0]))] sz) := by
  refine Met.ofW (cc := prog_7_method_1_code) (maxL := 1) (ret := none) (by decide) rfl ?_
  intro p e s m args below meth c s₁ B hml hv
  obtain ⟨rfl, hsz, hP, hK, hD0, hN⟩ := hv
  have hx := B.exec
  have hb := B.bytes
  have hr := B.returns
  have hown : s.vm.findClass "LayerFeeder$Text" = some m.cls := findClass_of_methodNamed B.named
  have hlocks := B.notSynchronized
  have hin : meth.name = "<init>" := (name_of_methodNamed B.named B.method).1
  subst hsz
  have hD := hD0.self (sz := s.heap.size)
  generalize hAe : va_A [(h0, .inr (1, [.null, .int 0]))] s.heap.size = A at hD ⊢
  have hA : ∀ q : Nat, s.heap.size ≤ q → A q := fun q h => by rw [← hAe]; exact Or.inr h
  have hS : va_S A s.heap s.heap [] := va_S.rf
  have hl := lv_entry ([.ref h0]) (n := 1) (Nat.le_of_ble_eq_true rfl)
  rw [lg_entry_eq]
  generalize (lg_sl ([.ref h0]) ++ List.replicate (1 - (lg_sl ([.ref h0])).length) Slot.unset).toArray = ls at hl ⊢
  have hl : lv_has ls 1 [(0, .ref h0)] := hl
  refine lv_aload_n hx hb kd_Text_0 rfl (lv_at hl 0 rfl) ?_
  refine W.objInit hx hb hown (hN.use kw_83) (hN.use kw_76) (hN.use kw_77) rfl (by rw [hml]; exact hl.1) rfl kd_Text_1 (Nat.le_of_ble_eq_true rfl) (Nat.le_of_ble_eq_true rfl) ?_
  refine W.eq (g2 := F0 m 4 ls []) rfl ?_
  refine lv_aload_n hx hb kd_Text_4 rfl (lv_at hl 0 rfl) ?_
  refine lv_bipush (v := 80) hx hb kd_Text_5 (by decide) ?_
  refine k_newa (e0 := 2) (t0 := 1) (ty := .char) (N' := 80) (a0 := (80, .inl (fun _ => 0))) hx hb (hN.use kw_91) rfl rfl (by simp) hK hP hD hS hA (fun _ => rfl) (by decide) (by decide) (by decide) (by show _ ≤ 1; omega) (by show _ ≤ 80; omega) kd_Text_7 (fun q7_0 H hP hD hS => ?_)
  have hP : va_P D xm_cl [(h0, .inr (1, [.null, .int 0])), (q7_0, .inl (cs 2, 80, .inl (fun _ => 0)))] H := hP
  have hD : va_D A [(h0, .inr (1, [.null, .int 0])), (q7_0, .inl (cs 2, 80, .inl (fun _ => 0)))] := hD
  refine W.widen (k := 1) (n := 80) (by omega) (by omega) ?_
  refine va_putF (D := D) (ci := 1) (v := .ref q7_0) (ty := .array .char) (C := "LayerFeeder$Text") (T := xm_T1) (N := 2) hx hb (kwc1 hN) (fun _ h => h) ky1 kt1 kn1 hown hK hP hD hS 0 rfl rfl 0 (by decide) (hN.use kw_84) (fun _ h9 => h9) rfl hin rfl (by decide +kernel) rfl rfl (Nat.le_of_ble_eq_true rfl) kd_Text_9 (fun H locs hP hD hS => ?_)
  have hP : va_P D xm_cl [(h0, .inr (1, [.ref q7_0, .int 0])), (q7_0, .inl (cs 2, 80, .inl (fun _ => 0)))] H := hP
  have hD : va_D A [(h0, .inr (1, [.ref q7_0, .int 0])), (q7_0, .inl (cs 2, 80, .inl (fun _ => 0)))] := hD
  refine lv_aload_n hx hb kd_Text_12 rfl (lv_at hl 0 rfl) ?_
  refine lv_iconst (v := 0) hx hb kd_Text_13 (by decide) ?_
  refine va_put (D := D) (ci := 1) (v := .int 0) (ty := .int) (C := "LayerFeeder$Text") (T := xm_T1) (N := 2) hx hb (kwc1 hN) (fun _ h => h) ky1 kt1 kn1 hown hK hP hD hS 0 rfl rfl 1 (by decide) (hN.use kw_85) (fun _ h9 => h9) rfl (by decide +kernel) rfl rfl (Nat.le_of_ble_eq_true rfl) kd_Text_14 (fun H locs hP hD hS => ?_)
  have hP : va_P D xm_cl [(h0, .inr (1, [.ref q7_0, .int 0])), (q7_0, .inl (cs 2, 80, .inl (fun _ => 0)))] H := hP
  have hD : va_D A [(h0, .inr (1, [.ref q7_0, .int 0])), (q7_0, .inl (cs 2, 80, .inl (fun _ => 0)))] := hD
  subst hAe
  exact W.vret hx hb hr (fun t ht hW => ⟨⟨(fun i => [q7_0].getD i 0), rfl, trivial, by rw [ht]; exact hP, hD⟩, hS.F ht⟩) hS.2.2 kd_Text_17
set_option maxHeartbeats 4000000 in
set_option maxRecDepth 100000 in
theorem kc_Frame (l : Launch) (D : va_G) (cs : Nat → ClassId) (h0 sz : Nat) : Met l ⟨"LayerFeeder$Frame", "<init>", "()V"⟩ [.code ⟨"LayerFeeder$Frame", "<init>", "()V"⟩ prog_4_method_1_code 1 none] ({ frames := 1, cells := 2, slots := 80, locals := 12 }) (kPre D cs [.ref h0] sz [(h0, .inr (2, [.null, .null, .int 0]))]) (kPost D [(h0, .inr (2, [.null, .null, .int 0]))] sz (fun u => [(h0, .inr (2, [.ref (u 0), .ref (u 1), .int 0])), ((u 0), .inl (cs 2, 40, .inl (fun _ => 0))), ((u 1), .inl (cs 1, 40, .inl (fun _ => 0)))])) 2 80 (va_A [(h0, .inr (2, [.null, .null, .int 0]))] sz) := by
  refine Met.ofW (cc := prog_4_method_1_code) (maxL := 1) (ret := none) (by decide) rfl ?_
  intro p e s m args below meth c s₁ B hml hv
  obtain ⟨rfl, hsz, hP, hK, hD0, hN⟩ := hv
  have hx := B.exec
  have hb := B.bytes
  have hr := B.returns
  have hown : s.vm.findClass "LayerFeeder$Frame" = some m.cls := findClass_of_methodNamed B.named
  have hlocks := B.notSynchronized
  have hin : meth.name = "<init>" := (name_of_methodNamed B.named B.method).1
  subst hsz
  have hD := hD0.self (sz := s.heap.size)
  generalize hAe : va_A [(h0, .inr (2, [.null, .null, .int 0]))] s.heap.size = A at hD ⊢
  have hA : ∀ q : Nat, s.heap.size ≤ q → A q := fun q h => by rw [← hAe]; exact Or.inr h
  have hS : va_S A s.heap s.heap [] := va_S.rf
  have hl := lv_entry ([.ref h0]) (n := 1) (Nat.le_of_ble_eq_true rfl)
  rw [lg_entry_eq]
  generalize (lg_sl ([.ref h0]) ++ List.replicate (1 - (lg_sl ([.ref h0])).length) Slot.unset).toArray = ls at hl ⊢
  have hl : lv_has ls 1 [(0, .ref h0)] := hl
  refine lv_aload_n hx hb kd_Frame_0 rfl (lv_at hl 0 rfl) ?_
  refine W.objInit hx hb hown (hN.use kw_97) (hN.use kw_76) (hN.use kw_77) rfl (by rw [hml]; exact hl.1) rfl kd_Frame_1 (Nat.le_of_ble_eq_true rfl) (Nat.le_of_ble_eq_true rfl) ?_
  refine W.eq (g2 := F0 m 4 ls []) rfl ?_
  refine lv_aload_n hx hb kd_Frame_4 rfl (lv_at hl 0 rfl) ?_
  refine lv_bipush (v := 40) hx hb kd_Frame_5 (by decide) ?_
  refine k_newa (e0 := 2) (t0 := 1) (ty := .char) (N' := 40) (a0 := (40, .inl (fun _ => 0))) hx hb (hN.use kw_91) rfl rfl (by simp) hK hP hD hS hA (fun _ => rfl) (by decide) (by decide) (by decide) (by show _ ≤ 2; omega) (by show _ ≤ 80; omega) kd_Frame_7 (fun q7_0 H hP hD hS => ?_)
  have hP : va_P D xm_cl [(h0, .inr (2, [.null, .null, .int 0])), (q7_0, .inl (cs 2, 40, .inl (fun _ => 0)))] H := hP
  have hD : va_D A [(h0, .inr (2, [.null, .null, .int 0])), (q7_0, .inl (cs 2, 40, .inl (fun _ => 0)))] := hD
  refine W.widen (k := 1) (n := 40) (by omega) (by omega) ?_
  refine va_putF (D := D) (ci := 2) (v := .ref q7_0) (ty := .array .char) (C := "LayerFeeder$Frame") (T := xm_T2) (N := 3) hx hb (kwc2 hN) (fun _ h => h) ky2 kt2 kn2 hown hK hP hD hS 0 rfl rfl 0 (by decide) (hN.use kw_98) (fun _ h9 => h9) rfl hin rfl (by decide +kernel) rfl rfl (Nat.le_of_ble_eq_true rfl) kd_Frame_9 (fun H locs hP hD hS => ?_)
  have hP : va_P D xm_cl [(h0, .inr (2, [.ref q7_0, .null, .int 0])), (q7_0, .inl (cs 2, 40, .inl (fun _ => 0)))] H := hP
  have hD : va_D A [(h0, .inr (2, [.ref q7_0, .null, .int 0])), (q7_0, .inl (cs 2, 40, .inl (fun _ => 0)))] := hD
  refine lv_aload_n hx hb kd_Frame_12 rfl (lv_at hl 0 rfl) ?_
  refine lv_bipush (v := 40) hx hb kd_Frame_13 (by decide) ?_
  refine k_newa (e0 := 1) (t0 := 0) (ty := .int) (N' := 40) (a0 := (40, .inl (fun _ => 0))) hx hb (hN.use kw_111) rfl rfl (by simp) hK hP hD hS hA (fun _ => rfl) (by decide) (by decide) (by decide) (by show _ ≤ 2; omega) (by show _ ≤ 80; omega) kd_Frame_15 (fun q15_1 H hP hD hS => ?_)
  have hP : va_P D xm_cl [(h0, .inr (2, [.ref q7_0, .null, .int 0])), (q7_0, .inl (cs 2, 40, .inl (fun _ => 0))), (q15_1, .inl (cs 1, 40, .inl (fun _ => 0)))] H := hP
  have hD : va_D A [(h0, .inr (2, [.ref q7_0, .null, .int 0])), (q7_0, .inl (cs 2, 40, .inl (fun _ => 0))), (q15_1, .inl (cs 1, 40, .inl (fun _ => 0)))] := hD
  refine W.widen (k := 2) (n := 80) (by omega) (by omega) ?_
  refine va_putF (D := D) (ci := 2) (v := .ref q15_1) (ty := .array .int) (C := "LayerFeeder$Frame") (T := xm_T2) (N := 3) hx hb (kwc2 hN) (fun _ h => h) ky2 kt2 kn2 hown hK hP hD hS 0 rfl rfl 1 (by decide) (hN.use kw_100) (fun _ h9 => h9) rfl hin rfl (by decide +kernel) rfl rfl (Nat.le_of_ble_eq_true rfl) kd_Frame_17 (fun H locs hP hD hS => ?_)
  have hP : va_P D xm_cl [(h0, .inr (2, [.ref q7_0, .ref q15_1, .int 0])), (q7_0, .inl (cs 2, 40, .inl (fun _ => 0))), (q15_1, .inl (cs 1, 40, .inl (fun _ => 0)))] H := hP
  have hD : va_D A [(h0, .inr (2, [.ref q7_0, .ref q15_1, .int 0])), (q7_0, .inl (cs 2, 40, .inl (fun _ => 0))), (q15_1, .inl (cs 1, 40, .inl (fun _ => 0)))] := hD
  refine lv_aload_n hx hb kd_Frame_20 rfl (lv_at hl 0 rfl) ?_
  refine lv_iconst (v := 0) hx hb kd_Frame_21 (by decide) ?_
  refine va_put (D := D) (ci := 2) (v := .int 0) (ty := .int) (C := "LayerFeeder$Frame") (T := xm_T2) (N := 3) hx hb (kwc2 hN) (fun _ h => h) ky2 kt2 kn2 hown hK hP hD hS 0 rfl rfl 2 (by decide) (hN.use kw_102) (fun _ h9 => h9) rfl (by decide +kernel) rfl rfl (Nat.le_of_ble_eq_true rfl) kd_Frame_22 (fun H locs hP hD hS => ?_)
  have hP : va_P D xm_cl [(h0, .inr (2, [.ref q7_0, .ref q15_1, .int 0])), (q7_0, .inl (cs 2, 40, .inl (fun _ => 0))), (q15_1, .inl (cs 1, 40, .inl (fun _ => 0)))] H := hP
  have hD : va_D A [(h0, .inr (2, [.ref q7_0, .ref q15_1, .int 0])), (q7_0, .inl (cs 2, 40, .inl (fun _ => 0))), (q15_1, .inl (cs 1, 40, .inl (fun _ => 0)))] := hD
  subst hAe
  exact W.vret hx hb hr (fun t ht hW => ⟨⟨(fun i => [q7_0, q15_1].getD i 0), rfl, trivial, by rw [ht]; exact hP, hD⟩, hS.F ht⟩) hS.2.2 kd_Frame_25
set_option maxHeartbeats 4000000 in
set_option maxRecDepth 100000 in
theorem kc_Command (l : Launch) (D : va_G) (cs : Nat → ClassId) (h0 sz : Nat) : Met l ⟨"LayerFeeder$Command", "<init>", "()V"⟩ [.code ⟨"LayerFeeder$Command", "<init>", "()V"⟩ prog_3_method_1_code 1 none] ({ frames := 1, cells := 1, slots := 26, locals := 12 }) (kPre D cs [.ref h0] sz [(h0, .inr (3, [.null, .int 0, .int 0]))]) (kPost D [(h0, .inr (3, [.null, .int 0, .int 0]))] sz (fun u => [(h0, .inr (3, [.ref (u 0), .int 0, .int 0])), ((u 0), .inl (cs 1, 26, .inl (fun _ => 0)))])) 1 26 (va_A [(h0, .inr (3, [.null, .int 0, .int 0]))] sz) := by
  refine Met.ofW (cc := prog_3_method_1_code) (maxL := 1) (ret := none) (by decide) rfl ?_
  intro p e s m args below meth c s₁ B hml hv
  obtain ⟨rfl, hsz, hP, hK, hD0, hN⟩ := hv
  have hx := B.exec
  have hb := B.bytes
  have hr := B.returns
  have hown : s.vm.findClass "LayerFeeder$Command" = some m.cls := findClass_of_methodNamed B.named
  have hlocks := B.notSynchronized
  have hin : meth.name = "<init>" := (name_of_methodNamed B.named B.method).1
  subst hsz
  have hD := hD0.self (sz := s.heap.size)
  generalize hAe : va_A [(h0, .inr (3, [.null, .int 0, .int 0]))] s.heap.size = A at hD ⊢
  have hA : ∀ q : Nat, s.heap.size ≤ q → A q := fun q h => by rw [← hAe]; exact Or.inr h
  have hS : va_S A s.heap s.heap [] := va_S.rf
  have hl := lv_entry ([.ref h0]) (n := 1) (Nat.le_of_ble_eq_true rfl)
  rw [lg_entry_eq]
  generalize (lg_sl ([.ref h0]) ++ List.replicate (1 - (lg_sl ([.ref h0])).length) Slot.unset).toArray = ls at hl ⊢
  have hl : lv_has ls 1 [(0, .ref h0)] := hl
  refine lv_aload_n hx hb kd_Command_0 rfl (lv_at hl 0 rfl) ?_
  refine W.objInit hx hb hown (hN.use kw_117) (hN.use kw_76) (hN.use kw_77) rfl (by rw [hml]; exact hl.1) rfl kd_Command_1 (Nat.le_of_ble_eq_true rfl) (Nat.le_of_ble_eq_true rfl) ?_
  refine W.eq (g2 := F0 m 4 ls []) rfl ?_
  refine lv_aload_n hx hb kd_Command_4 rfl (lv_at hl 0 rfl) ?_
  refine lv_bipush (v := 26) hx hb kd_Command_5 (by decide) ?_
  refine k_newa (e0 := 1) (t0 := 0) (ty := .int) (N' := 26) (a0 := (26, .inl (fun _ => 0))) hx hb (hN.use kw_111) rfl rfl (by simp) hK hP hD hS hA (fun _ => rfl) (by decide) (by decide) (by decide) (by show _ ≤ 1; omega) (by show _ ≤ 26; omega) kd_Command_7 (fun q7_0 H hP hD hS => ?_)
  have hP : va_P D xm_cl [(h0, .inr (3, [.null, .int 0, .int 0])), (q7_0, .inl (cs 1, 26, .inl (fun _ => 0)))] H := hP
  have hD : va_D A [(h0, .inr (3, [.null, .int 0, .int 0])), (q7_0, .inl (cs 1, 26, .inl (fun _ => 0)))] := hD
  refine W.widen (k := 1) (n := 26) (by omega) (by omega) ?_
  refine va_putF (D := D) (ci := 3) (v := .ref q7_0) (ty := .array .int) (C := "LayerFeeder$Command") (T := xm_T3) (N := 3) hx hb (kwc3 hN) (fun _ h => h) ky3 kt3 kn3 hown hK hP hD hS 0 rfl rfl 0 (by decide) (hN.use kw_118) (fun _ h9 => h9) rfl hin rfl (by decide +kernel) rfl rfl (Nat.le_of_ble_eq_true rfl) kd_Command_9 (fun H locs hP hD hS => ?_)
  have hP : va_P D xm_cl [(h0, .inr (3, [.ref q7_0, .int 0, .int 0])), (q7_0, .inl (cs 1, 26, .inl (fun _ => 0)))] H := hP
  have hD : va_D A [(h0, .inr (3, [.ref q7_0, .int 0, .int 0])), (q7_0, .inl (cs 1, 26, .inl (fun _ => 0)))] := hD
  refine lv_aload_n hx hb kd_Command_12 rfl (lv_at hl 0 rfl) ?_
  refine lv_iconst (v := 0) hx hb kd_Command_13 (by decide) ?_
  refine va_put (D := D) (ci := 3) (v := .int 0) (ty := .int) (C := "LayerFeeder$Command") (T := xm_T3) (N := 3) hx hb (kwc3 hN) (fun _ h => h) ky3 kt3 kn3 hown hK hP hD hS 0 rfl rfl 1 (by decide) (hN.use kw_119) (fun _ h9 => h9) rfl (by decide +kernel) rfl rfl (Nat.le_of_ble_eq_true rfl) kd_Command_14 (fun H locs hP hD hS => ?_)
  have hP : va_P D xm_cl [(h0, .inr (3, [.ref q7_0, .int 0, .int 0])), (q7_0, .inl (cs 1, 26, .inl (fun _ => 0)))] H := hP
  have hD : va_D A [(h0, .inr (3, [.ref q7_0, .int 0, .int 0])), (q7_0, .inl (cs 1, 26, .inl (fun _ => 0)))] := hD
  refine lv_aload_n hx hb kd_Command_17 rfl (lv_at hl 0 rfl) ?_
  refine lv_iconst (v := 0) hx hb kd_Command_18 (by decide) ?_
  refine va_put (D := D) (ci := 3) (v := .int 0) (ty := .int) (C := "LayerFeeder$Command") (T := xm_T3) (N := 3) hx hb (kwc3 hN) (fun _ h => h) ky3 kt3 kn3 hown hK hP hD hS 0 rfl rfl 2 (by decide) (hN.use kw_120) (fun _ h9 => h9) rfl (by decide +kernel) rfl rfl (Nat.le_of_ble_eq_true rfl) kd_Command_19 (fun H locs hP hD hS => ?_)
  have hP : va_P D xm_cl [(h0, .inr (3, [.ref q7_0, .int 0, .int 0])), (q7_0, .inl (cs 1, 26, .inl (fun _ => 0)))] H := hP
  have hD : va_D A [(h0, .inr (3, [.ref q7_0, .int 0, .int 0])), (q7_0, .inl (cs 1, 26, .inl (fun _ => 0)))] := hD
  subst hAe
  exact W.vret hx hb hr (fun t ht hW => ⟨⟨(fun i => [q7_0].getD i 0), rfl, trivial, by rw [ht]; exact hP, hD⟩, hS.F ht⟩) hS.2.2 kd_Command_22
set_option maxHeartbeats 4000000 in
set_option maxRecDepth 100000 in
theorem kc_Slots (l : Launch) (D : va_G) (cs : Nat → ClassId) (h0 sz : Nat) : Met l ⟨"LayerFeeder$Slots", "<init>", "()V"⟩ [.code ⟨"LayerFeeder$Slots", "<init>", "()V"⟩ prog_6_method_1_code 1 none] ({ frames := 1, cells := 1, slots := 8, locals := 12 }) (kPre D cs [.ref h0] sz [(h0, .inr (6, [.null, .int 0]))]) (kPost D [(h0, .inr (6, [.null, .int 0]))] sz (fun u => [(h0, .inr (6, [.ref (u 0), .int 0])), ((u 0), .inl (cs 1, 8, .inl (fun _ => 0)))])) 1 8 (va_A [(h0, .inr (6, [.null, .int 0]))] sz) := by
  refine Met.ofW (cc := prog_6_method_1_code) (maxL := 1) (ret := none) (by decide) rfl ?_
  intro p e s m args below meth c s₁ B hml hv
  obtain ⟨rfl, hsz, hP, hK, hD0, hN⟩ := hv
  have hx := B.exec
  have hb := B.bytes
  have hr := B.returns
  have hown : s.vm.findClass "LayerFeeder$Slots" = some m.cls := findClass_of_methodNamed B.named
  have hlocks := B.notSynchronized
  have hin : meth.name = "<init>" := (name_of_methodNamed B.named B.method).1
  subst hsz
  have hD := hD0.self (sz := s.heap.size)
  generalize hAe : va_A [(h0, .inr (6, [.null, .int 0]))] s.heap.size = A at hD ⊢
  have hA : ∀ q : Nat, s.heap.size ≤ q → A q := fun q h => by rw [← hAe]; exact Or.inr h
  have hS : va_S A s.heap s.heap [] := va_S.rf
  have hl := lv_entry ([.ref h0]) (n := 1) (Nat.le_of_ble_eq_true rfl)
  rw [lg_entry_eq]
  generalize (lg_sl ([.ref h0]) ++ List.replicate (1 - (lg_sl ([.ref h0])).length) Slot.unset).toArray = ls at hl ⊢
  have hl : lv_has ls 1 [(0, .ref h0)] := hl
  refine lv_aload_n hx hb kd_Slots_0 rfl (lv_at hl 0 rfl) ?_
  refine W.objInit hx hb hown (hN.use kw_134) (hN.use kw_76) (hN.use kw_77) rfl (by rw [hml]; exact hl.1) rfl kd_Slots_1 (Nat.le_of_ble_eq_true rfl) (Nat.le_of_ble_eq_true rfl) ?_
  refine W.eq (g2 := F0 m 4 ls []) rfl ?_
  refine lv_aload_n hx hb kd_Slots_4 rfl (lv_at hl 0 rfl) ?_
  refine lv_bipush (v := 8) hx hb kd_Slots_5 (by decide) ?_
  refine k_newa (e0 := 1) (t0 := 0) (ty := .int) (N' := 8) (a0 := (8, .inl (fun _ => 0))) hx hb (hN.use kw_111) rfl rfl (by simp) hK hP hD hS hA (fun _ => rfl) (by decide) (by decide) (by decide) (by show _ ≤ 1; omega) (by show _ ≤ 8; omega) kd_Slots_7 (fun q7_0 H hP hD hS => ?_)
  have hP : va_P D xm_cl [(h0, .inr (6, [.null, .int 0])), (q7_0, .inl (cs 1, 8, .inl (fun _ => 0)))] H := hP
  have hD : va_D A [(h0, .inr (6, [.null, .int 0])), (q7_0, .inl (cs 1, 8, .inl (fun _ => 0)))] := hD
  refine W.widen (k := 1) (n := 8) (by omega) (by omega) ?_
  refine va_putF (D := D) (ci := 6) (v := .ref q7_0) (ty := .array .int) (C := "LayerFeeder$Slots") (T := xm_T6) (N := 2) hx hb (kwc6 hN) (fun _ h => h) ky6 kt6 kn6 hown hK hP hD hS 0 rfl rfl 0 (by decide) (hN.use kw_135) (fun _ h9 => h9) rfl hin rfl (by decide +kernel) rfl rfl (Nat.le_of_ble_eq_true rfl) kd_Slots_9 (fun H locs hP hD hS => ?_)
  have hP : va_P D xm_cl [(h0, .inr (6, [.ref q7_0, .int 0])), (q7_0, .inl (cs 1, 8, .inl (fun _ => 0)))] H := hP
  have hD : va_D A [(h0, .inr (6, [.ref q7_0, .int 0])), (q7_0, .inl (cs 1, 8, .inl (fun _ => 0)))] := hD
  refine lv_aload_n hx hb kd_Slots_12 rfl (lv_at hl 0 rfl) ?_
  refine lv_iconst (v := 0) hx hb kd_Slots_13 (by decide) ?_
  refine va_put (D := D) (ci := 6) (v := .int 0) (ty := .int) (C := "LayerFeeder$Slots") (T := xm_T6) (N := 2) hx hb (kwc6 hN) (fun _ h => h) ky6 kt6 kn6 hown hK hP hD hS 0 rfl rfl 1 (by decide) (hN.use kw_136) (fun _ h9 => h9) rfl (by decide +kernel) rfl rfl (Nat.le_of_ble_eq_true rfl) kd_Slots_14 (fun H locs hP hD hS => ?_)
  have hP : va_P D xm_cl [(h0, .inr (6, [.ref q7_0, .int 0])), (q7_0, .inl (cs 1, 8, .inl (fun _ => 0)))] H := hP
  have hD : va_D A [(h0, .inr (6, [.ref q7_0, .int 0])), (q7_0, .inl (cs 1, 8, .inl (fun _ => 0)))] := hD
  subst hAe
  exact W.vret hx hb hr (fun t ht hW => ⟨⟨(fun i => [q7_0].getD i 0), rfl, trivial, by rw [ht]; exact hP, hD⟩, hS.F ht⟩) hS.2.2 kd_Slots_17
set_option maxHeartbeats 4000000 in
set_option maxRecDepth 100000 in
theorem kc_Block (l : Launch) (D : va_G) (cs : Nat → ClassId) (h0 sz : Nat) : Met l ⟨"LayerFeeder$Block", "<init>", "()V"⟩ [.code ⟨"LayerFeeder$Block", "<init>", "()V"⟩ prog_2_method_1_code 1 none] ({ frames := 1, cells := 1, slots := 3, locals := 12 }) (kPre D cs [.ref h0] sz [(h0, .inr (5, [.null, .int 0, .int 0, .int 0, .int 0]))]) (kPost D [(h0, .inr (5, [.null, .int 0, .int 0, .int 0, .int 0]))] sz (fun u => [(h0, .inr (5, [.ref (u 0), .int 0, .int 0, .int 0, .int 0])), ((u 0), .inl (cs 1, 3, .inl (fun _ => 0)))])) 1 3 (va_A [(h0, .inr (5, [.null, .int 0, .int 0, .int 0, .int 0]))] sz) := by
  refine Met.ofW (cc := prog_2_method_1_code) (maxL := 1) (ret := none) (by decide) rfl ?_
  intro p e s m args below meth c s₁ B hml hv
  obtain ⟨rfl, hsz, hP, hK, hD0, hN⟩ := hv
  have hx := B.exec
  have hb := B.bytes
  have hr := B.returns
  have hown : s.vm.findClass "LayerFeeder$Block" = some m.cls := findClass_of_methodNamed B.named
  have hlocks := B.notSynchronized
  have hin : meth.name = "<init>" := (name_of_methodNamed B.named B.method).1
  subst hsz
  have hD := hD0.self (sz := s.heap.size)
  generalize hAe : va_A [(h0, .inr (5, [.null, .int 0, .int 0, .int 0, .int 0]))] s.heap.size = A at hD ⊢
  have hA : ∀ q : Nat, s.heap.size ≤ q → A q := fun q h => by rw [← hAe]; exact Or.inr h
  have hS : va_S A s.heap s.heap [] := va_S.rf
  have hl := lv_entry ([.ref h0]) (n := 1) (Nat.le_of_ble_eq_true rfl)
  rw [lg_entry_eq]
  generalize (lg_sl ([.ref h0]) ++ List.replicate (1 - (lg_sl ([.ref h0])).length) Slot.unset).toArray = ls at hl ⊢
  have hl : lv_has ls 1 [(0, .ref h0)] := hl
  refine lv_aload_n hx hb kd_Block_0 rfl (lv_at hl 0 rfl) ?_
  refine W.objInit hx hb hown (hN.use kw_154) (hN.use kw_76) (hN.use kw_77) rfl (by rw [hml]; exact hl.1) rfl kd_Block_1 (Nat.le_of_ble_eq_true rfl) (Nat.le_of_ble_eq_true rfl) ?_
  refine W.eq (g2 := F0 m 4 ls []) rfl ?_
  refine lv_aload_n hx hb kd_Block_4 rfl (lv_at hl 0 rfl) ?_
  refine lv_iconst (v := 3) hx hb kd_Block_5 (by decide) ?_
  refine k_newa (e0 := 1) (t0 := 0) (ty := .int) (N' := 3) (a0 := (3, .inl (fun _ => 0))) hx hb (hN.use kw_111) rfl rfl (by simp) hK hP hD hS hA (fun _ => rfl) (by decide) (by decide) (by decide) (by show _ ≤ 1; omega) (by show _ ≤ 3; omega) kd_Block_6 (fun q6_0 H hP hD hS => ?_)
  have hP : va_P D xm_cl [(h0, .inr (5, [.null, .int 0, .int 0, .int 0, .int 0])), (q6_0, .inl (cs 1, 3, .inl (fun _ => 0)))] H := hP
  have hD : va_D A [(h0, .inr (5, [.null, .int 0, .int 0, .int 0, .int 0])), (q6_0, .inl (cs 1, 3, .inl (fun _ => 0)))] := hD
  refine W.widen (k := 1) (n := 3) (by omega) (by omega) ?_
  refine va_putF (D := D) (ci := 5) (v := .ref q6_0) (ty := .array .int) (C := "LayerFeeder$Block") (T := xm_T5) (N := 5) hx hb (kwc5 hN) (fun _ h => h) ky5 kt5 kn5 hown hK hP hD hS 0 rfl rfl 0 (by decide) (hN.use kw_155) (fun _ h9 => h9) rfl hin rfl (by decide +kernel) rfl rfl (Nat.le_of_ble_eq_true rfl) kd_Block_8 (fun H locs hP hD hS => ?_)
  have hP : va_P D xm_cl [(h0, .inr (5, [.ref q6_0, .int 0, .int 0, .int 0, .int 0])), (q6_0, .inl (cs 1, 3, .inl (fun _ => 0)))] H := hP
  have hD : va_D A [(h0, .inr (5, [.ref q6_0, .int 0, .int 0, .int 0, .int 0])), (q6_0, .inl (cs 1, 3, .inl (fun _ => 0)))] := hD
  refine lv_aload_n hx hb kd_Block_11 rfl (lv_at hl 0 rfl) ?_
  refine lv_iconst (v := 0) hx hb kd_Block_12 (by decide) ?_
  refine va_put (D := D) (ci := 5) (v := .int 0) (ty := .int) (C := "LayerFeeder$Block") (T := xm_T5) (N := 5) hx hb (kwc5 hN) (fun _ h => h) ky5 kt5 kn5 hown hK hP hD hS 0 rfl rfl 1 (by decide) (hN.use kw_156) (fun _ h9 => h9) rfl (by decide +kernel) rfl rfl (Nat.le_of_ble_eq_true rfl) kd_Block_13 (fun H locs hP hD hS => ?_)
  have hP : va_P D xm_cl [(h0, .inr (5, [.ref q6_0, .int 0, .int 0, .int 0, .int 0])), (q6_0, .inl (cs 1, 3, .inl (fun _ => 0)))] H := hP
  have hD : va_D A [(h0, .inr (5, [.ref q6_0, .int 0, .int 0, .int 0, .int 0])), (q6_0, .inl (cs 1, 3, .inl (fun _ => 0)))] := hD
  refine lv_aload_n hx hb kd_Block_16 rfl (lv_at hl 0 rfl) ?_
  refine lv_iconst (v := 0) hx hb kd_Block_17 (by decide) ?_
  refine va_put (D := D) (ci := 5) (v := .int 0) (ty := .int) (C := "LayerFeeder$Block") (T := xm_T5) (N := 5) hx hb (kwc5 hN) (fun _ h => h) ky5 kt5 kn5 hown hK hP hD hS 0 rfl rfl 2 (by decide) (hN.use kw_159) (fun _ h9 => h9) rfl (by decide +kernel) rfl rfl (Nat.le_of_ble_eq_true rfl) kd_Block_18 (fun H locs hP hD hS => ?_)
  have hP : va_P D xm_cl [(h0, .inr (5, [.ref q6_0, .int 0, .int 0, .int 0, .int 0])), (q6_0, .inl (cs 1, 3, .inl (fun _ => 0)))] H := hP
  have hD : va_D A [(h0, .inr (5, [.ref q6_0, .int 0, .int 0, .int 0, .int 0])), (q6_0, .inl (cs 1, 3, .inl (fun _ => 0)))] := hD
  refine lv_aload_n hx hb kd_Block_21 rfl (lv_at hl 0 rfl) ?_
  refine lv_iconst (v := 0) hx hb kd_Block_22 (by decide) ?_
  refine va_put (D := D) (ci := 5) (v := .int 0) (ty := .int) (C := "LayerFeeder$Block") (T := xm_T5) (N := 5) hx hb (kwc5 hN) (fun _ h => h) ky5 kt5 kn5 hown hK hP hD hS 0 rfl rfl 3 (by decide) (hN.use kw_162) (fun _ h9 => h9) rfl (by decide +kernel) rfl rfl (Nat.le_of_ble_eq_true rfl) kd_Block_23 (fun H locs hP hD hS => ?_)
  have hP : va_P D xm_cl [(h0, .inr (5, [.ref q6_0, .int 0, .int 0, .int 0, .int 0])), (q6_0, .inl (cs 1, 3, .inl (fun _ => 0)))] H := hP
  have hD : va_D A [(h0, .inr (5, [.ref q6_0, .int 0, .int 0, .int 0, .int 0])), (q6_0, .inl (cs 1, 3, .inl (fun _ => 0)))] := hD
  refine lv_aload_n hx hb kd_Block_26 rfl (lv_at hl 0 rfl) ?_
  refine lv_iconst (v := 0) hx hb kd_Block_27 (by decide) ?_
  refine va_put (D := D) (ci := 5) (v := .int 0) (ty := .int) (C := "LayerFeeder$Block") (T := xm_T5) (N := 5) hx hb (kwc5 hN) (fun _ h => h) ky5 kt5 kn5 hown hK hP hD hS 0 rfl rfl 4 (by decide) (hN.use kw_165) (fun _ h9 => h9) rfl (by decide +kernel) rfl rfl (Nat.le_of_ble_eq_true rfl) kd_Block_28 (fun H locs hP hD hS => ?_)
  have hP : va_P D xm_cl [(h0, .inr (5, [.ref q6_0, .int 0, .int 0, .int 0, .int 0])), (q6_0, .inl (cs 1, 3, .inl (fun _ => 0)))] H := hP
  have hD : va_D A [(h0, .inr (5, [.ref q6_0, .int 0, .int 0, .int 0, .int 0])), (q6_0, .inl (cs 1, 3, .inl (fun _ => 0)))] := hD
  subst hAe
  exact W.vret hx hb hr (fun t ht hW => ⟨⟨(fun i => [q6_0].getD i 0), rfl, trivial, by rw [ht]; exact hP, hD⟩, hS.F ht⟩) hS.2.2 kd_Block_31
set_option maxHeartbeats 4000000 in
set_option maxRecDepth 100000 in
theorem kc_Row (l : Launch) (D : va_G) (cs : Nat → ClassId) (h0 sz : Nat) (k : Int32) : Met l ⟨"LayerFeeder$Row", "<init>", "(I)V"⟩ [.code ⟨"LayerFeeder$Row", "<init>", "(I)V"⟩ prog_5_method_1_code 3 none] ({ frames := 2, cells := 17, slots := 72, locals := 32 }) (kPre D cs [.ref h0, .int k] sz [(h0, .inr (4, [.null, .int 0, .int 0, .int 0, .int 0, .int 0, .int 0]))]) (kPost D [(h0, .inr (4, [.null, .int 0, .int 0, .int 0, .int 0, .int 0, .int 0]))] sz (fun u => [(h0, .inr (4, [.ref (u 0), .int k, .int 0, .int 0, .int 0, .int 0, .int 0])), ((u 0), .inl (cs 4, 8, .inr (.inr (.inr (.inr (va_up (va_up (va_up (va_up (va_up (va_up (va_up (va_up (fun _ => none) 0 (some (u 1))) 1 (some (u 3))) 2 (some (u 5))) 3 (some (u 7))) 4 (some (u 9))) 5 (some (u 11))) 6 (some (u 13))) 7 (some (u 15)))))))), ((u 1), .inr (5, [.ref (u 2), .int 0, .int 0, .int 0, .int 0])), ((u 2), .inl (cs 1, 3, .inl (fun _ => 0))), ((u 3), .inr (5, [.ref (u 4), .int 0, .int 0, .int 0, .int 0])), ((u 4), .inl (cs 1, 3, .inl (fun _ => 0))), ((u 5), .inr (5, [.ref (u 6), .int 0, .int 0, .int 0, .int 0])), ((u 6), .inl (cs 1, 3, .inl (fun _ => 0))), ((u 7), .inr (5, [.ref (u 8), .int 0, .int 0, .int 0, .int 0])), ((u 8), .inl (cs 1, 3, .inl (fun _ => 0))), ((u 9), .inr (5, [.ref (u 10), .int 0, .int 0, .int 0, .int 0])), ((u 10), .inl (cs 1, 3, .inl (fun _ => 0))), ((u 11), .inr (5, [.ref (u 12), .int 0, .int 0, .int 0, .int 0])), ((u 12), .inl (cs 1, 3, .inl (fun _ => 0))), ((u 13), .inr (5, [.ref (u 14), .int 0, .int 0, .int 0, .int 0])), ((u 14), .inl (cs 1, 3, .inl (fun _ => 0))), ((u 15), .inr (5, [.ref (u 16), .int 0, .int 0, .int 0, .int 0])), ((u 16), .inl (cs 1, 3, .inl (fun _ => 0)))])) 17 72 (va_A [(h0, .inr (4, [.null, .int 0, .int 0, .int 0, .int 0, .int 0, .int 0]))] sz) := by
  refine Met.ofW (cc := prog_5_method_1_code) (maxL := 3) (ret := none) (by decide) rfl ?_
  intro p e s m args below meth c s₁ B hml hv
  obtain ⟨rfl, hsz, hP, hK, hD0, hN⟩ := hv
  have hx := B.exec
  have hb := B.bytes
  have hr := B.returns
  have hown : s.vm.findClass "LayerFeeder$Row" = some m.cls := findClass_of_methodNamed B.named
  have hlocks := B.notSynchronized
  have hin : meth.name = "<init>" := (name_of_methodNamed B.named B.method).1
  subst hsz
  have hD := hD0.self (sz := s.heap.size)
  generalize hAe : va_A [(h0, .inr (4, [.null, .int 0, .int 0, .int 0, .int 0, .int 0, .int 0]))] s.heap.size = A at hD ⊢
  have hA : ∀ q : Nat, s.heap.size ≤ q → A q := fun q h => by rw [← hAe]; exact Or.inr h
  have hS : va_S A s.heap s.heap [] := va_S.rf
  have hl := lv_entry ([.ref h0, .int k]) (n := 3) (Nat.le_of_ble_eq_true rfl)
  rw [lg_entry_eq]
  generalize (lg_sl ([.ref h0, .int k]) ++ List.replicate (3 - (lg_sl ([.ref h0, .int k])).length) Slot.unset).toArray = ls at hl ⊢
  have hl : lv_has ls 3 [(0, .ref h0), (1, .int k)] := hl
  refine lv_aload_n hx hb kd_Row_0 rfl (lv_at hl 0 rfl) ?_
  refine W.objInit hx hb hown (hN.use kw_147) (hN.use kw_76) (hN.use kw_77) rfl (by rw [hml]; exact hl.1) rfl kd_Row_1 (Nat.le_of_ble_eq_true rfl) (Nat.le_of_ble_eq_true rfl) ?_
  refine W.eq (g2 := F0 m 4 ls []) rfl ?_
  refine lv_aload_n hx hb kd_Row_4 rfl (lv_at hl 0 rfl) ?_
  refine lv_bipush (v := 8) hx hb kd_Row_5 (by decide) ?_
  refine k_newq (N' := 8) hx hb hown (hN.use kw_148) hN hK hP hD hS hA (by decide) (by decide) (by decide) (by show _ ≤ 17; omega) (by show _ ≤ 72; omega) kd_Row_7 (fun q7_0 H hP hD hS => ?_)
  have hP : va_P D xm_cl [(h0, .inr (4, [.null, .int 0, .int 0, .int 0, .int 0, .int 0, .int 0])), (q7_0, .inl (cs 4, 8, .inr (.inr (.inr (.inr (fun _ => none))))))] H := hP
  have hD : va_D A [(h0, .inr (4, [.null, .int 0, .int 0, .int 0, .int 0, .int 0, .int 0])), (q7_0, .inl (cs 4, 8, .inr (.inr (.inr (.inr (fun _ => none))))))] := hD
  refine W.widen (k := 1) (n := 8) (by omega) (by omega) ?_
  refine va_putF (D := D) (ci := 4) (v := .ref q7_0) (ty := .array (.object "LayerFeeder$Block")) (C := "LayerFeeder$Row") (T := xm_T4) (N := 7) hx hb (kwc4 hN) (fun _ h => h) ky4 kt4 kn4 hown hK hP hD hS 0 rfl rfl 0 (by decide) (hN.use kw_178) (fun _ h9 => h9) rfl hin rfl (by decide +kernel) rfl rfl (Nat.le_of_ble_eq_true rfl) kd_Row_10 (fun H locs hP hD hS => ?_)
  have hP : va_P D xm_cl [(h0, .inr (4, [.ref q7_0, .int 0, .int 0, .int 0, .int 0, .int 0, .int 0])), (q7_0, .inl (cs 4, 8, .inr (.inr (.inr (.inr (fun _ => none))))))] H := hP
  have hD : va_D A [(h0, .inr (4, [.ref q7_0, .int 0, .int 0, .int 0, .int 0, .int 0, .int 0])), (q7_0, .inl (cs 4, 8, .inr (.inr (.inr (.inr (fun _ => none))))))] := hD
  refine lv_aload_n hx hb kd_Row_13 rfl (lv_at hl 0 rfl) ?_
  refine lv_iconst (v := 0) hx hb kd_Row_14 (by decide) ?_
  refine va_put (D := D) (ci := 4) (v := .int 0) (ty := .int) (C := "LayerFeeder$Row") (T := xm_T4) (N := 7) hx hb (kwc4 hN) (fun _ h => h) ky4 kt4 kn4 hown hK hP hD hS 0 rfl rfl 2 (by decide) (hN.use kw_180) (fun _ h9 => h9) rfl (by decide +kernel) rfl rfl (Nat.le_of_ble_eq_true rfl) kd_Row_15 (fun H locs hP hD hS => ?_)
  have hP : va_P D xm_cl [(h0, .inr (4, [.ref q7_0, .int 0, .int 0, .int 0, .int 0, .int 0, .int 0])), (q7_0, .inl (cs 4, 8, .inr (.inr (.inr (.inr (fun _ => none))))))] H := hP
  have hD : va_D A [(h0, .inr (4, [.ref q7_0, .int 0, .int 0, .int 0, .int 0, .int 0, .int 0])), (q7_0, .inl (cs 4, 8, .inr (.inr (.inr (.inr (fun _ => none))))))] := hD
  refine lv_aload_n hx hb kd_Row_18 rfl (lv_at hl 0 rfl) ?_
  refine lv_iconst (v := 0) hx hb kd_Row_19 (by decide) ?_
  refine va_put (D := D) (ci := 4) (v := .int 0) (ty := .int) (C := "LayerFeeder$Row") (T := xm_T4) (N := 7) hx hb (kwc4 hN) (fun _ h => h) ky4 kt4 kn4 hown hK hP hD hS 0 rfl rfl 3 (by decide) (hN.use kw_181) (fun _ h9 => h9) rfl (by decide +kernel) rfl rfl (Nat.le_of_ble_eq_true rfl) kd_Row_20 (fun H locs hP hD hS => ?_)
  have hP : va_P D xm_cl [(h0, .inr (4, [.ref q7_0, .int 0, .int 0, .int 0, .int 0, .int 0, .int 0])), (q7_0, .inl (cs 4, 8, .inr (.inr (.inr (.inr (fun _ => none))))))] H := hP
  have hD : va_D A [(h0, .inr (4, [.ref q7_0, .int 0, .int 0, .int 0, .int 0, .int 0, .int 0])), (q7_0, .inl (cs 4, 8, .inr (.inr (.inr (.inr (fun _ => none))))))] := hD
  refine lv_aload_n hx hb kd_Row_23 rfl (lv_at hl 0 rfl) ?_
  refine lv_iconst (v := 0) hx hb kd_Row_24 (by decide) ?_
  refine va_put (D := D) (ci := 4) (v := .int 0) (ty := .boolean) (C := "LayerFeeder$Row") (T := xm_T4) (N := 7) hx hb (kwc4 hN) (fun _ h => h) ky4 kt4 kn4 hown hK hP hD hS 0 rfl rfl 4 (by decide) (hN.use kw_183) (fun _ h9 => h9) rfl (by decide +kernel) rfl rfl (Nat.le_of_ble_eq_true rfl) kd_Row_25 (fun H locs hP hD hS => ?_)
  have hP : va_P D xm_cl [(h0, .inr (4, [.ref q7_0, .int 0, .int 0, .int 0, .int 0, .int 0, .int 0])), (q7_0, .inl (cs 4, 8, .inr (.inr (.inr (.inr (fun _ => none))))))] H := hP
  have hD : va_D A [(h0, .inr (4, [.ref q7_0, .int 0, .int 0, .int 0, .int 0, .int 0, .int 0])), (q7_0, .inl (cs 4, 8, .inr (.inr (.inr (.inr (fun _ => none))))))] := hD
  refine lv_aload_n hx hb kd_Row_28 rfl (lv_at hl 0 rfl) ?_
  refine lv_iconst (v := 0) hx hb kd_Row_29 (by decide) ?_
  refine va_put (D := D) (ci := 4) (v := .int 0) (ty := .int) (C := "LayerFeeder$Row") (T := xm_T4) (N := 7) hx hb (kwc4 hN) (fun _ h => h) ky4 kt4 kn4 hown hK hP hD hS 0 rfl rfl 5 (by decide) (hN.use kw_185) (fun _ h9 => h9) rfl (by decide +kernel) rfl rfl (Nat.le_of_ble_eq_true rfl) kd_Row_30 (fun H locs hP hD hS => ?_)
  have hP : va_P D xm_cl [(h0, .inr (4, [.ref q7_0, .int 0, .int 0, .int 0, .int 0, .int 0, .int 0])), (q7_0, .inl (cs 4, 8, .inr (.inr (.inr (.inr (fun _ => none))))))] H := hP
  have hD : va_D A [(h0, .inr (4, [.ref q7_0, .int 0, .int 0, .int 0, .int 0, .int 0, .int 0])), (q7_0, .inl (cs 4, 8, .inr (.inr (.inr (.inr (fun _ => none))))))] := hD
  refine lv_aload_n hx hb kd_Row_33 rfl (lv_at hl 0 rfl) ?_
  refine lv_iconst (v := 0) hx hb kd_Row_34 (by decide) ?_
  refine va_put (D := D) (ci := 4) (v := .int 0) (ty := .int) (C := "LayerFeeder$Row") (T := xm_T4) (N := 7) hx hb (kwc4 hN) (fun _ h => h) ky4 kt4 kn4 hown hK hP hD hS 0 rfl rfl 6 (by decide) (hN.use kw_187) (fun _ h9 => h9) rfl (by decide +kernel) rfl rfl (Nat.le_of_ble_eq_true rfl) kd_Row_35 (fun H locs hP hD hS => ?_)
  have hP : va_P D xm_cl [(h0, .inr (4, [.ref q7_0, .int 0, .int 0, .int 0, .int 0, .int 0, .int 0])), (q7_0, .inl (cs 4, 8, .inr (.inr (.inr (.inr (fun _ => none))))))] H := hP
  have hD : va_D A [(h0, .inr (4, [.ref q7_0, .int 0, .int 0, .int 0, .int 0, .int 0, .int 0])), (q7_0, .inl (cs 4, 8, .inr (.inr (.inr (.inr (fun _ => none))))))] := hD
  refine lv_aload_n hx hb kd_Row_38 rfl (lv_at hl 0 rfl) ?_
  refine lv_iload_n hx hb kd_Row_39 rfl (lv_at hl 1 rfl) ?_
  refine va_putF (D := D) (ci := 4) (v := .int k) (ty := .int) (C := "LayerFeeder$Row") (T := xm_T4) (N := 7) hx hb (kwc4 hN) (fun _ h => h) ky4 kt4 kn4 hown hK hP hD hS 0 rfl rfl 1 (by decide) (hN.use kw_179) (fun _ h9 => h9) rfl hin rfl (by decide +kernel) rfl rfl (Nat.le_of_ble_eq_true rfl) kd_Row_40 (fun H locs hP hD hS => ?_)
  have hP : va_P D xm_cl [(h0, .inr (4, [.ref q7_0, .int k, .int 0, .int 0, .int 0, .int 0, .int 0])), (q7_0, .inl (cs 4, 8, .inr (.inr (.inr (.inr (fun _ => none))))))] H := hP
  have hD : va_D A [(h0, .inr (4, [.ref q7_0, .int k, .int 0, .int 0, .int 0, .int 0, .int 0])), (q7_0, .inl (cs 4, 8, .inr (.inr (.inr (.inr (fun _ => none))))))] := hD
  refine lv_iconst (v := 0) hx hb kd_Row_43 (by decide) ?_
  refine lv_istore_n (nL := 3) (lv' := [(2, .int 0), (0, .ref h0), (1, .int k)]) hx hb kd_Row_44 rfl hl (by decide) rfl (fun ls hl => ?_)
  have hl : lv_has ls 3 [(2, .int 0), (0, .ref h0), (1, .int k)] := hl
  refine lv_iload_n hx hb kd_Row_45 rfl (lv_at hl 0 rfl) ?_
  refine lv_bipush (v := 8) hx hb kd_Row_46 (by decide) ?_
  refine lv_icmp_ge (tgt := 70) hx hb kd_Row_48 (by decide) (fun hf => absurd hf (by decide)) (fun _ => ?_)
  refine lv_aload_n hx hb kd_Row_51 rfl (lv_at hl 1 rfl) ?_
  refine va_get (D := D) (ci := 4) (v := .ref q7_0) (C := "LayerFeeder$Row") (T := xm_T4) (N := 7) hx hb (kwc4 hN) (fun _ h => h) hown hK hP 0 rfl rfl 0 (by decide) (hN.use kw_178) (fun _ h9 => h9) rfl kd_Row_52 ?_
  refine lv_iload_n hx hb kd_Row_55 rfl (lv_at hl 0 rfl) ?_
  refine va_new (ci := 5) (fs := [.null, .int 0, .int 0, .int 0, .int 0]) (C := "LayerFeeder$Block") (T := xm_T5) (N := 5) hx hb (kwc5 hN) (fun _ h => h) ky5 kt5 hown (hN.use kw_148) (hN.use kw_150) (hN.use kw_54) hK hP hD hS hA rfl (by decide +kernel) (by show _ ≤ 17; omega) (by show _ ≤ 72; omega) kd_Row_56 (fun q56_1 H hP hD hS => ?_)
  have hP : va_P D xm_cl [(h0, .inr (4, [.ref q7_0, .int k, .int 0, .int 0, .int 0, .int 0, .int 0])), (q7_0, .inl (cs 4, 8, .inr (.inr (.inr (.inr (fun _ => none)))))), (q56_1, .inr (5, [.null, .int 0, .int 0, .int 0, .int 0]))] H := hP
  have hD : va_D A [(h0, .inr (4, [.ref q7_0, .int k, .int 0, .int 0, .int 0, .int 0, .int 0])), (q7_0, .inl (cs 4, 8, .inr (.inr (.inr (.inr (fun _ => none)))))), (q56_1, .inr (5, [.null, .int 0, .int 0, .int 0, .int 0]))] := hD
  refine W.widen (k := 2) (n := 13) (by omega) (by omega) ?_
  refine lv_dup hx hb kd_Row_59 rfl ?_
  have hPc := hP.sub (ws' := [(q56_1, .inr (5, [.null, .int 0, .int 0, .int 0, .int 0]))]) [2] rfl
  have hDc := hD.sub (ws' := [(q56_1, .inr (5, [.null, .int 0, .int 0, .int 0, .int 0]))]) [2] (by decide) rfl
  have hFc := va_free (wc := [(q56_1, .inr (5, [.null, .int 0, .int 0, .int 0, .int 0]))]) hD hS hA [2] rfl
  refine va_callv (va_runIN (As := []) (rest := [.ref q56_1, .int 0, .ref q7_0]) ⟨hx, hb, hml, hown, k_one (hN.use kw_153)⟩ (kc_Block l D cs q56_1 H.size) ⟨va_cnB 0 (k_one (hN.use kw_153)) (k_good _ rfl) rfl rfl rfl (hN.is kw_151) (hN.use kw_54) (by decide +kernel) ⟨Nat.le_of_ble_eq_true rfl, Nat.le_of_ble_eq_true rfl⟩, rfl, hN.use kw_152⟩ ⟨kPre_blind, fun U hU hW => kPre_at hU hW hPc hK hDc hN⟩ rfl rfl hl.1 rfl (lv_room (Nat.le_of_ble_eq_true rfl)) kd_Row_60 ⟨by show _ ≤ 17; omega, by show _ ≤ 72; omega⟩) hS (fun q _ h => hFc q h) hFc (fun u60_2 t H1 locs ht hvm _ hB hz1 hk1 hS => ?_)
  obtain ⟨hP1, hD1⟩ := hB
  rw [ht] at hP1
  obtain ⟨hP, hD⟩ := va_join (wr := [(h0, .inr (4, [.ref q7_0, .int k, .int 0, .int 0, .int 0, .int 0, .int 0])), (q7_0, .inl (cs 4, 8, .inr (.inr (.inr (.inr (fun _ => none))))))]) (w1 := [(q56_1, .inr (5, [.ref (u60_2 0), .int 0, .int 0, .int 0, .int 0])), ((u60_2 0), .inl (cs 1, 3, .inl (fun _ => 0)))]) hP hD [2] [0, 1] rfl rfl (by decide) (by decide) hk1 hFc hP1 hD1
  generalize H1 = H at hP hS ⊢
  have hP : va_P D xm_cl [(h0, .inr (4, [.ref q7_0, .int k, .int 0, .int 0, .int 0, .int 0, .int 0])), (q7_0, .inl (cs 4, 8, .inr (.inr (.inr (.inr (fun _ => none)))))), (q56_1, .inr (5, [.ref (u60_2 0), .int 0, .int 0, .int 0, .int 0])), ((u60_2 0), .inl (cs 1, 3, .inl (fun _ => 0)))] H := hP
  have hD : va_D A [(h0, .inr (4, [.ref q7_0, .int k, .int 0, .int 0, .int 0, .int 0, .int 0])), (q7_0, .inl (cs 4, 8, .inr (.inr (.inr (.inr (fun _ => none)))))), (q56_1, .inr (5, [.ref (u60_2 0), .int 0, .int 0, .int 0, .int 0])), ((u60_2 0), .inl (cs 1, 3, .inl (fun _ => 0)))] := hD
  refine W.widen (k := 3) (n := 16) (by omega) (by omega) ?_
  refine va_astq (i := 0) hx hb hK hP hD hS 1 3 2 5 rfl rfl rfl rfl (by unfold vp_in; decide) kd_Row_63 (fun H locs hP hD hS => ?_)
  have hP : va_P D xm_cl [(h0, .inr (4, [.ref q7_0, .int k, .int 0, .int 0, .int 0, .int 0, .int 0])), (q7_0, .inl (cs 4, 8, .inr (.inr (.inr (.inr (va_up (fun _ => none) 0 (some q56_1))))))), (q56_1, .inr (5, [.ref (u60_2 0), .int 0, .int 0, .int 0, .int 0])), ((u60_2 0), .inl (cs 1, 3, .inl (fun _ => 0)))] H := hP
  have hD : va_D A [(h0, .inr (4, [.ref q7_0, .int k, .int 0, .int 0, .int 0, .int 0, .int 0])), (q7_0, .inl (cs 4, 8, .inr (.inr (.inr (.inr (va_up (fun _ => none) 0 (some q56_1))))))), (q56_1, .inr (5, [.ref (u60_2 0), .int 0, .int 0, .int 0, .int 0])), ((u60_2 0), .inl (cs 1, 3, .inl (fun _ => 0)))] := hD
  refine lv_iinc (nL := 3) (k := 0) (x := 0) (v := 1) (lv' := [(2, .int 1), (0, .ref h0), (1, .int k)]) hx hb kd_Row_64 hl rfl (by decide) (by decide) rfl (fun ls hl => ?_)
  have hl : lv_has ls 3 [(2, .int 1), (0, .ref h0), (1, .int k)] := hl
  refine lv_goto (tgt := 45) hx hb kd_Row_67 (by decide) ?_
  refine lv_iload_n hx hb kd_Row_45 rfl (lv_at hl 0 rfl) ?_
  refine lv_bipush (v := 8) hx hb kd_Row_46 (by decide) ?_
  refine lv_icmp_ge (tgt := 70) hx hb kd_Row_48 (by decide) (fun hf => absurd hf (by decide)) (fun _ => ?_)
  refine lv_aload_n hx hb kd_Row_51 rfl (lv_at hl 1 rfl) ?_
  refine va_get (D := D) (ci := 4) (v := .ref q7_0) (C := "LayerFeeder$Row") (T := xm_T4) (N := 7) hx hb (kwc4 hN) (fun _ h => h) hown hK hP 0 rfl rfl 0 (by decide) (hN.use kw_178) (fun _ h9 => h9) rfl kd_Row_52 ?_
  refine lv_iload_n hx hb kd_Row_55 rfl (lv_at hl 0 rfl) ?_
  refine va_new (ci := 5) (fs := [.null, .int 0, .int 0, .int 0, .int 0]) (C := "LayerFeeder$Block") (T := xm_T5) (N := 5) hx hb (kwc5 hN) (fun _ h => h) ky5 kt5 hown (hN.use kw_148) (hN.use kw_150) (hN.use kw_54) hK hP hD hS hA rfl (by decide +kernel) (by show _ ≤ 17; omega) (by show _ ≤ 72; omega) kd_Row_56 (fun q56_3 H hP hD hS => ?_)
  have hP : va_P D xm_cl [(h0, .inr (4, [.ref q7_0, .int k, .int 0, .int 0, .int 0, .int 0, .int 0])), (q7_0, .inl (cs 4, 8, .inr (.inr (.inr (.inr (va_up (fun _ => none) 0 (some q56_1))))))), (q56_1, .inr (5, [.ref (u60_2 0), .int 0, .int 0, .int 0, .int 0])), ((u60_2 0), .inl (cs 1, 3, .inl (fun _ => 0))), (q56_3, .inr (5, [.null, .int 0, .int 0, .int 0, .int 0]))] H := hP
  have hD : va_D A [(h0, .inr (4, [.ref q7_0, .int k, .int 0, .int 0, .int 0, .int 0, .int 0])), (q7_0, .inl (cs 4, 8, .inr (.inr (.inr (.inr (va_up (fun _ => none) 0 (some q56_1))))))), (q56_1, .inr (5, [.ref (u60_2 0), .int 0, .int 0, .int 0, .int 0])), ((u60_2 0), .inl (cs 1, 3, .inl (fun _ => 0))), (q56_3, .inr (5, [.null, .int 0, .int 0, .int 0, .int 0]))] := hD
  refine W.widen (k := 4) (n := 21) (by omega) (by omega) ?_
  refine lv_dup hx hb kd_Row_59 rfl ?_
  have hPc := hP.sub (ws' := [(q56_3, .inr (5, [.null, .int 0, .int 0, .int 0, .int 0]))]) [4] rfl
  have hDc := hD.sub (ws' := [(q56_3, .inr (5, [.null, .int 0, .int 0, .int 0, .int 0]))]) [4] (by decide) rfl
  have hFc := va_free (wc := [(q56_3, .inr (5, [.null, .int 0, .int 0, .int 0, .int 0]))]) hD hS hA [4] rfl
  refine va_callv (va_runIN (As := []) (rest := [.ref q56_3, .int 1, .ref q7_0]) ⟨hx, hb, hml, hown, k_one (hN.use kw_153)⟩ (kc_Block l D cs q56_3 H.size) ⟨va_cnB 0 (k_one (hN.use kw_153)) (k_good _ rfl) rfl rfl rfl (hN.is kw_151) (hN.use kw_54) (by decide +kernel) ⟨Nat.le_of_ble_eq_true rfl, Nat.le_of_ble_eq_true rfl⟩, rfl, hN.use kw_152⟩ ⟨kPre_blind, fun U hU hW => kPre_at hU hW hPc hK hDc hN⟩ rfl rfl hl.1 rfl (lv_room (Nat.le_of_ble_eq_true rfl)) kd_Row_60 ⟨by show _ ≤ 17; omega, by show _ ≤ 72; omega⟩) hS (fun q _ h => hFc q h) hFc (fun u60_4 t H1 locs ht hvm _ hB hz1 hk1 hS => ?_)
  obtain ⟨hP1, hD1⟩ := hB
  rw [ht] at hP1
  obtain ⟨hP, hD⟩ := va_join (wr := [(h0, .inr (4, [.ref q7_0, .int k, .int 0, .int 0, .int 0, .int 0, .int 0])), (q7_0, .inl (cs 4, 8, .inr (.inr (.inr (.inr (va_up (fun _ => none) 0 (some q56_1))))))), (q56_1, .inr (5, [.ref (u60_2 0), .int 0, .int 0, .int 0, .int 0])), ((u60_2 0), .inl (cs 1, 3, .inl (fun _ => 0)))]) (w1 := [(q56_3, .inr (5, [.ref (u60_4 0), .int 0, .int 0, .int 0, .int 0])), ((u60_4 0), .inl (cs 1, 3, .inl (fun _ => 0)))]) hP hD [4] [0, 1, 2, 3] rfl rfl (by decide) (by decide) hk1 hFc hP1 hD1
  generalize H1 = H at hP hS ⊢
  have hP : va_P D xm_cl [(h0, .inr (4, [.ref q7_0, .int k, .int 0, .int 0, .int 0, .int 0, .int 0])), (q7_0, .inl (cs 4, 8, .inr (.inr (.inr (.inr (va_up (fun _ => none) 0 (some q56_1))))))), (q56_1, .inr (5, [.ref (u60_2 0), .int 0, .int 0, .int 0, .int 0])), ((u60_2 0), .inl (cs 1, 3, .inl (fun _ => 0))), (q56_3, .inr (5, [.ref (u60_4 0), .int 0, .int 0, .int 0, .int 0])), ((u60_4 0), .inl (cs 1, 3, .inl (fun _ => 0)))] H := hP
  have hD : va_D A [(h0, .inr (4, [.ref q7_0, .int k, .int 0, .int 0, .int 0, .int 0, .int 0])), (q7_0, .inl (cs 4, 8, .inr (.inr (.inr (.inr (va_up (fun _ => none) 0 (some q56_1))))))), (q56_1, .inr (5, [.ref (u60_2 0), .int 0, .int 0, .int 0, .int 0])), ((u60_2 0), .inl (cs 1, 3, .inl (fun _ => 0))), (q56_3, .inr (5, [.ref (u60_4 0), .int 0, .int 0, .int 0, .int 0])), ((u60_4 0), .inl (cs 1, 3, .inl (fun _ => 0)))] := hD
  refine W.widen (k := 5) (n := 24) (by omega) (by omega) ?_
  refine va_astq (i := 1) hx hb hK hP hD hS 1 3 4 5 rfl rfl rfl rfl (by unfold vp_in; decide) kd_Row_63 (fun H locs hP hD hS => ?_)
  have hP : va_P D xm_cl [(h0, .inr (4, [.ref q7_0, .int k, .int 0, .int 0, .int 0, .int 0, .int 0])), (q7_0, .inl (cs 4, 8, .inr (.inr (.inr (.inr (va_up (va_up (fun _ => none) 0 (some q56_1)) 1 (some q56_3))))))), (q56_1, .inr (5, [.ref (u60_2 0), .int 0, .int 0, .int 0, .int 0])), ((u60_2 0), .inl (cs 1, 3, .inl (fun _ => 0))), (q56_3, .inr (5, [.ref (u60_4 0), .int 0, .int 0, .int 0, .int 0])), ((u60_4 0), .inl (cs 1, 3, .inl (fun _ => 0)))] H := hP
  have hD : va_D A [(h0, .inr (4, [.ref q7_0, .int k, .int 0, .int 0, .int 0, .int 0, .int 0])), (q7_0, .inl (cs 4, 8, .inr (.inr (.inr (.inr (va_up (va_up (fun _ => none) 0 (some q56_1)) 1 (some q56_3))))))), (q56_1, .inr (5, [.ref (u60_2 0), .int 0, .int 0, .int 0, .int 0])), ((u60_2 0), .inl (cs 1, 3, .inl (fun _ => 0))), (q56_3, .inr (5, [.ref (u60_4 0), .int 0, .int 0, .int 0, .int 0])), ((u60_4 0), .inl (cs 1, 3, .inl (fun _ => 0)))] := hD
  refine lv_iinc (nL := 3) (k := 0) (x := 1) (v := 2) (lv' := [(2, .int 2), (0, .ref h0), (1, .int k)]) hx hb kd_Row_64 hl rfl (by decide) (by decide) rfl (fun ls hl => ?_)
  have hl : lv_has ls 3 [(2, .int 2), (0, .ref h0), (1, .int k)] := hl
  refine lv_goto (tgt := 45) hx hb kd_Row_67 (by decide) ?_
  refine lv_iload_n hx hb kd_Row_45 rfl (lv_at hl 0 rfl) ?_
  refine lv_bipush (v := 8) hx hb kd_Row_46 (by decide) ?_
  refine lv_icmp_ge (tgt := 70) hx hb kd_Row_48 (by decide) (fun hf => absurd hf (by decide)) (fun _ => ?_)
  refine lv_aload_n hx hb kd_Row_51 rfl (lv_at hl 1 rfl) ?_
  refine va_get (D := D) (ci := 4) (v := .ref q7_0) (C := "LayerFeeder$Row") (T := xm_T4) (N := 7) hx hb (kwc4 hN) (fun _ h => h) hown hK hP 0 rfl rfl 0 (by decide) (hN.use kw_178) (fun _ h9 => h9) rfl kd_Row_52 ?_
  refine lv_iload_n hx hb kd_Row_55 rfl (lv_at hl 0 rfl) ?_
  refine va_new (ci := 5) (fs := [.null, .int 0, .int 0, .int 0, .int 0]) (C := "LayerFeeder$Block") (T := xm_T5) (N := 5) hx hb (kwc5 hN) (fun _ h => h) ky5 kt5 hown (hN.use kw_148) (hN.use kw_150) (hN.use kw_54) hK hP hD hS hA rfl (by decide +kernel) (by show _ ≤ 17; omega) (by show _ ≤ 72; omega) kd_Row_56 (fun q56_5 H hP hD hS => ?_)
  have hP : va_P D xm_cl [(h0, .inr (4, [.ref q7_0, .int k, .int 0, .int 0, .int 0, .int 0, .int 0])), (q7_0, .inl (cs 4, 8, .inr (.inr (.inr (.inr (va_up (va_up (fun _ => none) 0 (some q56_1)) 1 (some q56_3))))))), (q56_1, .inr (5, [.ref (u60_2 0), .int 0, .int 0, .int 0, .int 0])), ((u60_2 0), .inl (cs 1, 3, .inl (fun _ => 0))), (q56_3, .inr (5, [.ref (u60_4 0), .int 0, .int 0, .int 0, .int 0])), ((u60_4 0), .inl (cs 1, 3, .inl (fun _ => 0))), (q56_5, .inr (5, [.null, .int 0, .int 0, .int 0, .int 0]))] H := hP
  have hD : va_D A [(h0, .inr (4, [.ref q7_0, .int k, .int 0, .int 0, .int 0, .int 0, .int 0])), (q7_0, .inl (cs 4, 8, .inr (.inr (.inr (.inr (va_up (va_up (fun _ => none) 0 (some q56_1)) 1 (some q56_3))))))), (q56_1, .inr (5, [.ref (u60_2 0), .int 0, .int 0, .int 0, .int 0])), ((u60_2 0), .inl (cs 1, 3, .inl (fun _ => 0))), (q56_3, .inr (5, [.ref (u60_4 0), .int 0, .int 0, .int 0, .int 0])), ((u60_4 0), .inl (cs 1, 3, .inl (fun _ => 0))), (q56_5, .inr (5, [.null, .int 0, .int 0, .int 0, .int 0]))] := hD
  refine W.widen (k := 6) (n := 29) (by omega) (by omega) ?_
  refine lv_dup hx hb kd_Row_59 rfl ?_
  have hPc := hP.sub (ws' := [(q56_5, .inr (5, [.null, .int 0, .int 0, .int 0, .int 0]))]) [6] rfl
  have hDc := hD.sub (ws' := [(q56_5, .inr (5, [.null, .int 0, .int 0, .int 0, .int 0]))]) [6] (by decide) rfl
  have hFc := va_free (wc := [(q56_5, .inr (5, [.null, .int 0, .int 0, .int 0, .int 0]))]) hD hS hA [6] rfl
  refine va_callv (va_runIN (As := []) (rest := [.ref q56_5, .int 2, .ref q7_0]) ⟨hx, hb, hml, hown, k_one (hN.use kw_153)⟩ (kc_Block l D cs q56_5 H.size) ⟨va_cnB 0 (k_one (hN.use kw_153)) (k_good _ rfl) rfl rfl rfl (hN.is kw_151) (hN.use kw_54) (by decide +kernel) ⟨Nat.le_of_ble_eq_true rfl, Nat.le_of_ble_eq_true rfl⟩, rfl, hN.use kw_152⟩ ⟨kPre_blind, fun U hU hW => kPre_at hU hW hPc hK hDc hN⟩ rfl rfl hl.1 rfl (lv_room (Nat.le_of_ble_eq_true rfl)) kd_Row_60 ⟨by show _ ≤ 17; omega, by show _ ≤ 72; omega⟩) hS (fun q _ h => hFc q h) hFc (fun u60_6 t H1 locs ht hvm _ hB hz1 hk1 hS => ?_)
  obtain ⟨hP1, hD1⟩ := hB
  rw [ht] at hP1
  obtain ⟨hP, hD⟩ := va_join (wr := [(h0, .inr (4, [.ref q7_0, .int k, .int 0, .int 0, .int 0, .int 0, .int 0])), (q7_0, .inl (cs 4, 8, .inr (.inr (.inr (.inr (va_up (va_up (fun _ => none) 0 (some q56_1)) 1 (some q56_3))))))), (q56_1, .inr (5, [.ref (u60_2 0), .int 0, .int 0, .int 0, .int 0])), ((u60_2 0), .inl (cs 1, 3, .inl (fun _ => 0))), (q56_3, .inr (5, [.ref (u60_4 0), .int 0, .int 0, .int 0, .int 0])), ((u60_4 0), .inl (cs 1, 3, .inl (fun _ => 0)))]) (w1 := [(q56_5, .inr (5, [.ref (u60_6 0), .int 0, .int 0, .int 0, .int 0])), ((u60_6 0), .inl (cs 1, 3, .inl (fun _ => 0)))]) hP hD [6] [0, 1, 2, 3, 4, 5] rfl rfl (by decide) (by decide) hk1 hFc hP1 hD1
  generalize H1 = H at hP hS ⊢
  have hP : va_P D xm_cl [(h0, .inr (4, [.ref q7_0, .int k, .int 0, .int 0, .int 0, .int 0, .int 0])), (q7_0, .inl (cs 4, 8, .inr (.inr (.inr (.inr (va_up (va_up (fun _ => none) 0 (some q56_1)) 1 (some q56_3))))))), (q56_1, .inr (5, [.ref (u60_2 0), .int 0, .int 0, .int 0, .int 0])), ((u60_2 0), .inl (cs 1, 3, .inl (fun _ => 0))), (q56_3, .inr (5, [.ref (u60_4 0), .int 0, .int 0, .int 0, .int 0])), ((u60_4 0), .inl (cs 1, 3, .inl (fun _ => 0))), (q56_5, .inr (5, [.ref (u60_6 0), .int 0, .int 0, .int 0, .int 0])), ((u60_6 0), .inl (cs 1, 3, .inl (fun _ => 0)))] H := hP
  have hD : va_D A [(h0, .inr (4, [.ref q7_0, .int k, .int 0, .int 0, .int 0, .int 0, .int 0])), (q7_0, .inl (cs 4, 8, .inr (.inr (.inr (.inr (va_up (va_up (fun _ => none) 0 (some q56_1)) 1 (some q56_3))))))), (q56_1, .inr (5, [.ref (u60_2 0), .int 0, .int 0, .int 0, .int 0])), ((u60_2 0), .inl (cs 1, 3, .inl (fun _ => 0))), (q56_3, .inr (5, [.ref (u60_4 0), .int 0, .int 0, .int 0, .int 0])), ((u60_4 0), .inl (cs 1, 3, .inl (fun _ => 0))), (q56_5, .inr (5, [.ref (u60_6 0), .int 0, .int 0, .int 0, .int 0])), ((u60_6 0), .inl (cs 1, 3, .inl (fun _ => 0)))] := hD
  refine W.widen (k := 7) (n := 32) (by omega) (by omega) ?_
  refine va_astq (i := 2) hx hb hK hP hD hS 1 3 6 5 rfl rfl rfl rfl (by unfold vp_in; decide) kd_Row_63 (fun H locs hP hD hS => ?_)
  have hP : va_P D xm_cl [(h0, .inr (4, [.ref q7_0, .int k, .int 0, .int 0, .int 0, .int 0, .int 0])), (q7_0, .inl (cs 4, 8, .inr (.inr (.inr (.inr (va_up (va_up (va_up (fun _ => none) 0 (some q56_1)) 1 (some q56_3)) 2 (some q56_5))))))), (q56_1, .inr (5, [.ref (u60_2 0), .int 0, .int 0, .int 0, .int 0])), ((u60_2 0), .inl (cs 1, 3, .inl (fun _ => 0))), (q56_3, .inr (5, [.ref (u60_4 0), .int 0, .int 0, .int 0, .int 0])), ((u60_4 0), .inl (cs 1, 3, .inl (fun _ => 0))), (q56_5, .inr (5, [.ref (u60_6 0), .int 0, .int 0, .int 0, .int 0])), ((u60_6 0), .inl (cs 1, 3, .inl (fun _ => 0)))] H := hP
  have hD : va_D A [(h0, .inr (4, [.ref q7_0, .int k, .int 0, .int 0, .int 0, .int 0, .int 0])), (q7_0, .inl (cs 4, 8, .inr (.inr (.inr (.inr (va_up (va_up (va_up (fun _ => none) 0 (some q56_1)) 1 (some q56_3)) 2 (some q56_5))))))), (q56_1, .inr (5, [.ref (u60_2 0), .int 0, .int 0, .int 0, .int 0])), ((u60_2 0), .inl (cs 1, 3, .inl (fun _ => 0))), (q56_3, .inr (5, [.ref (u60_4 0), .int 0, .int 0, .int 0, .int 0])), ((u60_4 0), .inl (cs 1, 3, .inl (fun _ => 0))), (q56_5, .inr (5, [.ref (u60_6 0), .int 0, .int 0, .int 0, .int 0])), ((u60_6 0), .inl (cs 1, 3, .inl (fun _ => 0)))] := hD
  refine lv_iinc (nL := 3) (k := 0) (x := 2) (v := 3) (lv' := [(2, .int 3), (0, .ref h0), (1, .int k)]) hx hb kd_Row_64 hl rfl (by decide) (by decide) rfl (fun ls hl => ?_)
  have hl : lv_has ls 3 [(2, .int 3), (0, .ref h0), (1, .int k)] := hl
  refine lv_goto (tgt := 45) hx hb kd_Row_67 (by decide) ?_
  refine lv_iload_n hx hb kd_Row_45 rfl (lv_at hl 0 rfl) ?_
  refine lv_bipush (v := 8) hx hb kd_Row_46 (by decide) ?_
  refine lv_icmp_ge (tgt := 70) hx hb kd_Row_48 (by decide) (fun hf => absurd hf (by decide)) (fun _ => ?_)
  refine lv_aload_n hx hb kd_Row_51 rfl (lv_at hl 1 rfl) ?_
  refine va_get (D := D) (ci := 4) (v := .ref q7_0) (C := "LayerFeeder$Row") (T := xm_T4) (N := 7) hx hb (kwc4 hN) (fun _ h => h) hown hK hP 0 rfl rfl 0 (by decide) (hN.use kw_178) (fun _ h9 => h9) rfl kd_Row_52 ?_
  refine lv_iload_n hx hb kd_Row_55 rfl (lv_at hl 0 rfl) ?_
  refine va_new (ci := 5) (fs := [.null, .int 0, .int 0, .int 0, .int 0]) (C := "LayerFeeder$Block") (T := xm_T5) (N := 5) hx hb (kwc5 hN) (fun _ h => h) ky5 kt5 hown (hN.use kw_148) (hN.use kw_150) (hN.use kw_54) hK hP hD hS hA rfl (by decide +kernel) (by show _ ≤ 17; omega) (by show _ ≤ 72; omega) kd_Row_56 (fun q56_7 H hP hD hS => ?_)
  have hP : va_P D xm_cl [(h0, .inr (4, [.ref q7_0, .int k, .int 0, .int 0, .int 0, .int 0, .int 0])), (q7_0, .inl (cs 4, 8, .inr (.inr (.inr (.inr (va_up (va_up (va_up (fun _ => none) 0 (some q56_1)) 1 (some q56_3)) 2 (some q56_5))))))), (q56_1, .inr (5, [.ref (u60_2 0), .int 0, .int 0, .int 0, .int 0])), ((u60_2 0), .inl (cs 1, 3, .inl (fun _ => 0))), (q56_3, .inr (5, [.ref (u60_4 0), .int 0, .int 0, .int 0, .int 0])), ((u60_4 0), .inl (cs 1, 3, .inl (fun _ => 0))), (q56_5, .inr (5, [.ref (u60_6 0), .int 0, .int 0, .int 0, .int 0])), ((u60_6 0), .inl (cs 1, 3, .inl (fun _ => 0))), (q56_7, .inr (5, [.null, .int 0, .int 0, .int 0, .int 0]))] H := hP
  have hD : va_D A [(h0, .inr (4, [.ref q7_0, .int k, .int 0, .int 0, .int 0, .int 0, .int 0])), (q7_0, .inl (cs 4, 8, .inr (.inr (.inr (.inr (va_up (va_up (va_up (fun _ => none) 0 (some q56_1)) 1 (some q56_3)) 2 (some q56_5))))))), (q56_1, .inr (5, [.ref (u60_2 0), .int 0, .int 0, .int 0, .int 0])), ((u60_2 0), .inl (cs 1, 3, .inl (fun _ => 0))), (q56_3, .inr (5, [.ref (u60_4 0), .int 0, .int 0, .int 0, .int 0])), ((u60_4 0), .inl (cs 1, 3, .inl (fun _ => 0))), (q56_5, .inr (5, [.ref (u60_6 0), .int 0, .int 0, .int 0, .int 0])), ((u60_6 0), .inl (cs 1, 3, .inl (fun _ => 0))), (q56_7, .inr (5, [.null, .int 0, .int 0, .int 0, .int 0]))] := hD
  refine W.widen (k := 8) (n := 37) (by omega) (by omega) ?_
  refine lv_dup hx hb kd_Row_59 rfl ?_
  have hPc := hP.sub (ws' := [(q56_7, .inr (5, [.null, .int 0, .int 0, .int 0, .int 0]))]) [8] rfl
  have hDc := hD.sub (ws' := [(q56_7, .inr (5, [.null, .int 0, .int 0, .int 0, .int 0]))]) [8] (by decide) rfl
  have hFc := va_free (wc := [(q56_7, .inr (5, [.null, .int 0, .int 0, .int 0, .int 0]))]) hD hS hA [8] rfl
  refine va_callv (va_runIN (As := []) (rest := [.ref q56_7, .int 3, .ref q7_0]) ⟨hx, hb, hml, hown, k_one (hN.use kw_153)⟩ (kc_Block l D cs q56_7 H.size) ⟨va_cnB 0 (k_one (hN.use kw_153)) (k_good _ rfl) rfl rfl rfl (hN.is kw_151) (hN.use kw_54) (by decide +kernel) ⟨Nat.le_of_ble_eq_true rfl, Nat.le_of_ble_eq_true rfl⟩, rfl, hN.use kw_152⟩ ⟨kPre_blind, fun U hU hW => kPre_at hU hW hPc hK hDc hN⟩ rfl rfl hl.1 rfl (lv_room (Nat.le_of_ble_eq_true rfl)) kd_Row_60 ⟨by show _ ≤ 17; omega, by show _ ≤ 72; omega⟩) hS (fun q _ h => hFc q h) hFc (fun u60_8 t H1 locs ht hvm _ hB hz1 hk1 hS => ?_)
  obtain ⟨hP1, hD1⟩ := hB
  rw [ht] at hP1
  obtain ⟨hP, hD⟩ := va_join (wr := [(h0, .inr (4, [.ref q7_0, .int k, .int 0, .int 0, .int 0, .int 0, .int 0])), (q7_0, .inl (cs 4, 8, .inr (.inr (.inr (.inr (va_up (va_up (va_up (fun _ => none) 0 (some q56_1)) 1 (some q56_3)) 2 (some q56_5))))))), (q56_1, .inr (5, [.ref (u60_2 0), .int 0, .int 0, .int 0, .int 0])), ((u60_2 0), .inl (cs 1, 3, .inl (fun _ => 0))), (q56_3, .inr (5, [.ref (u60_4 0), .int 0, .int 0, .int 0, .int 0])), ((u60_4 0), .inl (cs 1, 3, .inl (fun _ => 0))), (q56_5, .inr (5, [.ref (u60_6 0), .int 0, .int 0, .int 0, .int 0])), ((u60_6 0), .inl (cs 1, 3, .inl (fun _ => 0)))]) (w1 := [(q56_7, .inr (5, [.ref (u60_8 0), .int 0, .int 0, .int 0, .int 0])), ((u60_8 0), .inl (cs 1, 3, .inl (fun _ => 0)))]) hP hD [8] [0, 1, 2, 3, 4, 5, 6, 7] rfl rfl (by decide) (by decide) hk1 hFc hP1 hD1
  generalize H1 = H at hP hS ⊢
  have hP : va_P D xm_cl [(h0, .inr (4, [.ref q7_0, .int k, .int 0, .int 0, .int 0, .int 0, .int 0])), (q7_0, .inl (cs 4, 8, .inr (.inr (.inr (.inr (va_up (va_up (va_up (fun _ => none) 0 (some q56_1)) 1 (some q56_3)) 2 (some q56_5))))))), (q56_1, .inr (5, [.ref (u60_2 0), .int 0, .int 0, .int 0, .int 0])), ((u60_2 0), .inl (cs 1, 3, .inl (fun _ => 0))), (q56_3, .inr (5, [.ref (u60_4 0), .int 0, .int 0, .int 0, .int 0])), ((u60_4 0), .inl (cs 1, 3, .inl (fun _ => 0))), (q56_5, .inr (5, [.ref (u60_6 0), .int 0, .int 0, .int 0, .int 0])), ((u60_6 0), .inl (cs 1, 3, .inl (fun _ => 0))), (q56_7, .inr (5, [.ref (u60_8 0), .int 0, .int 0, .int 0, .int 0])), ((u60_8 0), .inl (cs 1, 3, .inl (fun _ => 0)))] H := hP
  have hD : va_D A [(h0, .inr (4, [.ref q7_0, .int k, .int 0, .int 0, .int 0, .int 0, .int 0])), (q7_0, .inl (cs 4, 8, .inr (.inr (.inr (.inr (va_up (va_up (va_up (fun _ => none) 0 (some q56_1)) 1 (some q56_3)) 2 (some q56_5))))))), (q56_1, .inr (5, [.ref (u60_2 0), .int 0, .int 0, .int 0, .int 0])), ((u60_2 0), .inl (cs 1, 3, .inl (fun _ => 0))), (q56_3, .inr (5, [.ref (u60_4 0), .int 0, .int 0, .int 0, .int 0])), ((u60_4 0), .inl (cs 1, 3, .inl (fun _ => 0))), (q56_5, .inr (5, [.ref (u60_6 0), .int 0, .int 0, .int 0, .int 0])), ((u60_6 0), .inl (cs 1, 3, .inl (fun _ => 0))), (q56_7, .inr (5, [.ref (u60_8 0), .int 0, .int 0, .int 0, .int 0])), ((u60_8 0), .inl (cs 1, 3, .inl (fun _ => 0)))] := hD
  refine W.widen (k := 9) (n := 40) (by omega) (by omega) ?_
  refine va_astq (i := 3) hx hb hK hP hD hS 1 3 8 5 rfl rfl rfl rfl (by unfold vp_in; decide) kd_Row_63 (fun H locs hP hD hS => ?_)
  have hP : va_P D xm_cl [(h0, .inr (4, [.ref q7_0, .int k, .int 0, .int 0, .int 0, .int 0, .int 0])), (q7_0, .inl (cs 4, 8, .inr (.inr (.inr (.inr (va_up (va_up (va_up (va_up (fun _ => none) 0 (some q56_1)) 1 (some q56_3)) 2 (some q56_5)) 3 (some q56_7))))))), (q56_1, .inr (5, [.ref (u60_2 0), .int 0, .int 0, .int 0, .int 0])), ((u60_2 0), .inl (cs 1, 3, .inl (fun _ => 0))), (q56_3, .inr (5, [.ref (u60_4 0), .int 0, .int 0, .int 0, .int 0])), ((u60_4 0), .inl (cs 1, 3, .inl (fun _ => 0))), (q56_5, .inr (5, [.ref (u60_6 0), .int 0, .int 0, .int 0, .int 0])), ((u60_6 0), .inl (cs 1, 3, .inl (fun _ => 0))), (q56_7, .inr (5, [.ref (u60_8 0), .int 0, .int 0, .int 0, .int 0])), ((u60_8 0), .inl (cs 1, 3, .inl (fun _ => 0)))] H := hP
  have hD : va_D A [(h0, .inr (4, [.ref q7_0, .int k, .int 0, .int 0, .int 0, .int 0, .int 0])), (q7_0, .inl (cs 4, 8, .inr (.inr (.inr (.inr (va_up (va_up (va_up (va_up (fun _ => none) 0 (some q56_1)) 1 (some q56_3)) 2 (some q56_5)) 3 (some q56_7))))))), (q56_1, .inr (5, [.ref (u60_2 0), .int 0, .int 0, .int 0, .int 0])), ((u60_2 0), .inl (cs 1, 3, .inl (fun _ => 0))), (q56_3, .inr (5, [.ref (u60_4 0), .int 0, .int 0, .int 0, .int 0])), ((u60_4 0), .inl (cs 1, 3, .inl (fun _ => 0))), (q56_5, .inr (5, [.ref (u60_6 0), .int 0, .int 0, .int 0, .int 0])), ((u60_6 0), .inl (cs 1, 3, .inl (fun _ => 0))), (q56_7, .inr (5, [.ref (u60_8 0), .int 0, .int 0, .int 0, .int 0])), ((u60_8 0), .inl (cs 1, 3, .inl (fun _ => 0)))] := hD
  refine lv_iinc (nL := 3) (k := 0) (x := 3) (v := 4) (lv' := [(2, .int 4), (0, .ref h0), (1, .int k)]) hx hb kd_Row_64 hl rfl (by decide) (by decide) rfl (fun ls hl => ?_)
  have hl : lv_has ls 3 [(2, .int 4), (0, .ref h0), (1, .int k)] := hl
  refine lv_goto (tgt := 45) hx hb kd_Row_67 (by decide) ?_
  refine lv_iload_n hx hb kd_Row_45 rfl (lv_at hl 0 rfl) ?_
  refine lv_bipush (v := 8) hx hb kd_Row_46 (by decide) ?_
  refine lv_icmp_ge (tgt := 70) hx hb kd_Row_48 (by decide) (fun hf => absurd hf (by decide)) (fun _ => ?_)
  refine lv_aload_n hx hb kd_Row_51 rfl (lv_at hl 1 rfl) ?_
  refine va_get (D := D) (ci := 4) (v := .ref q7_0) (C := "LayerFeeder$Row") (T := xm_T4) (N := 7) hx hb (kwc4 hN) (fun _ h => h) hown hK hP 0 rfl rfl 0 (by decide) (hN.use kw_178) (fun _ h9 => h9) rfl kd_Row_52 ?_
  refine lv_iload_n hx hb kd_Row_55 rfl (lv_at hl 0 rfl) ?_
  refine va_new (ci := 5) (fs := [.null, .int 0, .int 0, .int 0, .int 0]) (C := "LayerFeeder$Block") (T := xm_T5) (N := 5) hx hb (kwc5 hN) (fun _ h => h) ky5 kt5 hown (hN.use kw_148) (hN.use kw_150) (hN.use kw_54) hK hP hD hS hA rfl (by decide +kernel) (by show _ ≤ 17; omega) (by show _ ≤ 72; omega) kd_Row_56 (fun q56_9 H hP hD hS => ?_)
  have hP : va_P D xm_cl [(h0, .inr (4, [.ref q7_0, .int k, .int 0, .int 0, .int 0, .int 0, .int 0])), (q7_0, .inl (cs 4, 8, .inr (.inr (.inr (.inr (va_up (va_up (va_up (va_up (fun _ => none) 0 (some q56_1)) 1 (some q56_3)) 2 (some q56_5)) 3 (some q56_7))))))), (q56_1, .inr (5, [.ref (u60_2 0), .int 0, .int 0, .int 0, .int 0])), ((u60_2 0), .inl (cs 1, 3, .inl (fun _ => 0))), (q56_3, .inr (5, [.ref (u60_4 0), .int 0, .int 0, .int 0, .int 0])), ((u60_4 0), .inl (cs 1, 3, .inl (fun _ => 0))), (q56_5, .inr (5, [.ref (u60_6 0), .int 0, .int 0, .int 0, .int 0])), ((u60_6 0), .inl (cs 1, 3, .inl (fun _ => 0))), (q56_7, .inr (5, [.ref (u60_8 0), .int 0, .int 0, .int 0, .int 0])), ((u60_8 0), .inl (cs 1, 3, .inl (fun _ => 0))), (q56_9, .inr (5, [.null, .int 0, .int 0, .int 0, .int 0]))] H := hP
  have hD : va_D A [(h0, .inr (4, [.ref q7_0, .int k, .int 0, .int 0, .int 0, .int 0, .int 0])), (q7_0, .inl (cs 4, 8, .inr (.inr (.inr (.inr (va_up (va_up (va_up (va_up (fun _ => none) 0 (some q56_1)) 1 (some q56_3)) 2 (some q56_5)) 3 (some q56_7))))))), (q56_1, .inr (5, [.ref (u60_2 0), .int 0, .int 0, .int 0, .int 0])), ((u60_2 0), .inl (cs 1, 3, .inl (fun _ => 0))), (q56_3, .inr (5, [.ref (u60_4 0), .int 0, .int 0, .int 0, .int 0])), ((u60_4 0), .inl (cs 1, 3, .inl (fun _ => 0))), (q56_5, .inr (5, [.ref (u60_6 0), .int 0, .int 0, .int 0, .int 0])), ((u60_6 0), .inl (cs 1, 3, .inl (fun _ => 0))), (q56_7, .inr (5, [.ref (u60_8 0), .int 0, .int 0, .int 0, .int 0])), ((u60_8 0), .inl (cs 1, 3, .inl (fun _ => 0))), (q56_9, .inr (5, [.null, .int 0, .int 0, .int 0, .int 0]))] := hD
  refine W.widen (k := 10) (n := 45) (by omega) (by omega) ?_
  refine lv_dup hx hb kd_Row_59 rfl ?_
  have hPc := hP.sub (ws' := [(q56_9, .inr (5, [.null, .int 0, .int 0, .int 0, .int 0]))]) [10] rfl
  have hDc := hD.sub (ws' := [(q56_9, .inr (5, [.null, .int 0, .int 0, .int 0, .int 0]))]) [10] (by decide) rfl
  have hFc := va_free (wc := [(q56_9, .inr (5, [.null, .int 0, .int 0, .int 0, .int 0]))]) hD hS hA [10] rfl
  refine va_callv (va_runIN (As := []) (rest := [.ref q56_9, .int 4, .ref q7_0]) ⟨hx, hb, hml, hown, k_one (hN.use kw_153)⟩ (kc_Block l D cs q56_9 H.size) ⟨va_cnB 0 (k_one (hN.use kw_153)) (k_good _ rfl) rfl rfl rfl (hN.is kw_151) (hN.use kw_54) (by decide +kernel) ⟨Nat.le_of_ble_eq_true rfl, Nat.le_of_ble_eq_true rfl⟩, rfl, hN.use kw_152⟩ ⟨kPre_blind, fun U hU hW => kPre_at hU hW hPc hK hDc hN⟩ rfl rfl hl.1 rfl (lv_room (Nat.le_of_ble_eq_true rfl)) kd_Row_60 ⟨by show _ ≤ 17; omega, by show _ ≤ 72; omega⟩) hS (fun q _ h => hFc q h) hFc (fun u60_10 t H1 locs ht hvm _ hB hz1 hk1 hS => ?_)
  obtain ⟨hP1, hD1⟩ := hB
  rw [ht] at hP1
  obtain ⟨hP, hD⟩ := va_join (wr := [(h0, .inr (4, [.ref q7_0, .int k, .int 0, .int 0, .int 0, .int 0, .int 0])), (q7_0, .inl (cs 4, 8, .inr (.inr (.inr (.inr (va_up (va_up (va_up (va_up (fun _ => none) 0 (some q56_1)) 1 (some q56_3)) 2 (some q56_5)) 3 (some q56_7))))))), (q56_1, .inr (5, [.ref (u60_2 0), .int 0, .int 0, .int 0, .int 0])), ((u60_2 0), .inl (cs 1, 3, .inl (fun _ => 0))), (q56_3, .inr (5, [.ref (u60_4 0), .int 0, .int 0, .int 0, .int 0])), ((u60_4 0), .inl (cs 1, 3, .inl (fun _ => 0))), (q56_5, .inr (5, [.ref (u60_6 0), .int 0, .int 0, .int 0, .int 0])), ((u60_6 0), .inl (cs 1, 3, .inl (fun _ => 0))), (q56_7, .inr (5, [.ref (u60_8 0), .int 0, .int 0, .int 0, .int 0])), ((u60_8 0), .inl (cs 1, 3, .inl (fun _ => 0)))]) (w1 := [(q56_9, .inr (5, [.ref (u60_10 0), .int 0, .int 0, .int 0, .int 0])), ((u60_10 0), .inl (cs 1, 3, .inl (fun _ => 0)))]) hP hD [10] [0, 1, 2, 3, 4, 5, 6, 7, 8, 9] rfl rfl (by decide) (by decide) hk1 hFc hP1 hD1
  generalize H1 = H at hP hS ⊢
  have hP : va_P D xm_cl [(h0, .inr (4, [.ref q7_0, .int k, .int 0, .int 0, .int 0, .int 0, .int 0])), (q7_0, .inl (cs 4, 8, .inr (.inr (.inr (.inr (va_up (va_up (va_up (va_up (fun _ => none) 0 (some q56_1)) 1 (some q56_3)) 2 (some q56_5)) 3 (some q56_7))))))), (q56_1, .inr (5, [.ref (u60_2 0), .int 0, .int 0, .int 0, .int 0])), ((u60_2 0), .inl (cs 1, 3, .inl (fun _ => 0))), (q56_3, .inr (5, [.ref (u60_4 0), .int 0, .int 0, .int 0, .int 0])), ((u60_4 0), .inl (cs 1, 3, .inl (fun _ => 0))), (q56_5, .inr (5, [.ref (u60_6 0), .int 0, .int 0, .int 0, .int 0])), ((u60_6 0), .inl (cs 1, 3, .inl (fun _ => 0))), (q56_7, .inr (5, [.ref (u60_8 0), .int 0, .int 0, .int 0, .int 0])), ((u60_8 0), .inl (cs 1, 3, .inl (fun _ => 0))), (q56_9, .inr (5, [.ref (u60_10 0), .int 0, .int 0, .int 0, .int 0])), ((u60_10 0), .inl (cs 1, 3, .inl (fun _ => 0)))] H := hP
  have hD : va_D A [(h0, .inr (4, [.ref q7_0, .int k, .int 0, .int 0, .int 0, .int 0, .int 0])), (q7_0, .inl (cs 4, 8, .inr (.inr (.inr (.inr (va_up (va_up (va_up (va_up (fun _ => none) 0 (some q56_1)) 1 (some q56_3)) 2 (some q56_5)) 3 (some q56_7))))))), (q56_1, .inr (5, [.ref (u60_2 0), .int 0, .int 0, .int 0, .int 0])), ((u60_2 0), .inl (cs 1, 3, .inl (fun _ => 0))), (q56_3, .inr (5, [.ref (u60_4 0), .int 0, .int 0, .int 0, .int 0])), ((u60_4 0), .inl (cs 1, 3, .inl (fun _ => 0))), (q56_5, .inr (5, [.ref (u60_6 0), .int 0, .int 0, .int 0, .int 0])), ((u60_6 0), .inl (cs 1, 3, .inl (fun _ => 0))), (q56_7, .inr (5, [.ref (u60_8 0), .int 0, .int 0, .int 0, .int 0])), ((u60_8 0), .inl (cs 1, 3, .inl (fun _ => 0))), (q56_9, .inr (5, [.ref (u60_10 0), .int 0, .int 0, .int 0, .int 0])), ((u60_10 0), .inl (cs 1, 3, .inl (fun _ => 0)))] := hD
  refine W.widen (k := 11) (n := 48) (by omega) (by omega) ?_
  refine va_astq (i := 4) hx hb hK hP hD hS 1 3 10 5 rfl rfl rfl rfl (by unfold vp_in; decide) kd_Row_63 (fun H locs hP hD hS => ?_)
  have hP : va_P D xm_cl [(h0, .inr (4, [.ref q7_0, .int k, .int 0, .int 0, .int 0, .int 0, .int 0])), (q7_0, .inl (cs 4, 8, .inr (.inr (.inr (.inr (va_up (va_up (va_up (va_up (va_up (fun _ => none) 0 (some q56_1)) 1 (some q56_3)) 2 (some q56_5)) 3 (some q56_7)) 4 (some q56_9))))))), (q56_1, .inr (5, [.ref (u60_2 0), .int 0, .int 0, .int 0, .int 0])), ((u60_2 0), .inl (cs 1, 3, .inl (fun _ => 0))), (q56_3, .inr (5, [.ref (u60_4 0), .int 0, .int 0, .int 0, .int 0])), ((u60_4 0), .inl (cs 1, 3, .inl (fun _ => 0))), (q56_5, .inr (5, [.ref (u60_6 0), .int 0, .int 0, .int 0, .int 0])), ((u60_6 0), .inl (cs 1, 3, .inl (fun _ => 0))), (q56_7, .inr (5, [.ref (u60_8 0), .int 0, .int 0, .int 0, .int 0])), ((u60_8 0), .inl (cs 1, 3, .inl (fun _ => 0))), (q56_9, .inr (5, [.ref (u60_10 0), .int 0, .int 0, .int 0, .int 0])), ((u60_10 0), .inl (cs 1, 3, .inl (fun _ => 0)))] H := hP
  have hD : va_D A [(h0, .inr (4, [.ref q7_0, .int k, .int 0, .int 0, .int 0, .int 0, .int 0])), (q7_0, .inl (cs 4, 8, .inr (.inr (.inr (.inr (va_up (va_up (va_up (va_up (va_up (fun _ => none) 0 (some q56_1)) 1 (some q56_3)) 2 (some q56_5)) 3 (some q56_7)) 4 (some q56_9))))))), (q56_1, .inr (5, [.ref (u60_2 0), .int 0, .int 0, .int 0, .int 0])), ((u60_2 0), .inl (cs 1, 3, .inl (fun _ => 0))), (q56_3, .inr (5, [.ref (u60_4 0), .int 0, .int 0, .int 0, .int 0])), ((u60_4 0), .inl (cs 1, 3, .inl (fun _ => 0))), (q56_5, .inr (5, [.ref (u60_6 0), .int 0, .int 0, .int 0, .int 0])), ((u60_6 0), .inl (cs 1, 3, .inl (fun _ => 0))), (q56_7, .inr (5, [.ref (u60_8 0), .int 0, .int 0, .int 0, .int 0])), ((u60_8 0), .inl (cs 1, 3, .inl (fun _ => 0))), (q56_9, .inr (5, [.ref (u60_10 0), .int 0, .int 0, .int 0, .int 0])), ((u60_10 0), .inl (cs 1, 3, .inl (fun _ => 0)))] := hD
  refine lv_iinc (nL := 3) (k := 0) (x := 4) (v := 5) (lv' := [(2, .int 5), (0, .ref h0), (1, .int k)]) hx hb kd_Row_64 hl rfl (by decide) (by decide) rfl (fun ls hl => ?_)
  have hl : lv_has ls 3 [(2, .int 5), (0, .ref h0), (1, .int k)] := hl
  refine lv_goto (tgt := 45) hx hb kd_Row_67 (by decide) ?_
  refine lv_iload_n hx hb kd_Row_45 rfl (lv_at hl 0 rfl) ?_
  refine lv_bipush (v := 8) hx hb kd_Row_46 (by decide) ?_
  refine lv_icmp_ge (tgt := 70) hx hb kd_Row_48 (by decide) (fun hf => absurd hf (by decide)) (fun _ => ?_)
  refine lv_aload_n hx hb kd_Row_51 rfl (lv_at hl 1 rfl) ?_
  refine va_get (D := D) (ci := 4) (v := .ref q7_0) (C := "LayerFeeder$Row") (T := xm_T4) (N := 7) hx hb (kwc4 hN) (fun _ h => h) hown hK hP 0 rfl rfl 0 (by decide) (hN.use kw_178) (fun _ h9 => h9) rfl kd_Row_52 ?_
  refine lv_iload_n hx hb kd_Row_55 rfl (lv_at hl 0 rfl) ?_
  refine va_new (ci := 5) (fs := [.null, .int 0, .int 0, .int 0, .int 0]) (C := "LayerFeeder$Block") (T := xm_T5) (N := 5) hx hb (kwc5 hN) (fun _ h => h) ky5 kt5 hown (hN.use kw_148) (hN.use kw_150) (hN.use kw_54) hK hP hD hS hA rfl (by decide +kernel) (by show _ ≤ 17; omega) (by show _ ≤ 72; omega) kd_Row_56 (fun q56_11 H hP hD hS => ?_)
  have hP : va_P D xm_cl [(h0, .inr (4, [.ref q7_0, .int k, .int 0, .int 0, .int 0, .int 0, .int 0])), (q7_0, .inl (cs 4, 8, .inr (.inr (.inr (.inr (va_up (va_up (va_up (va_up (va_up (fun _ => none) 0 (some q56_1)) 1 (some q56_3)) 2 (some q56_5)) 3 (some q56_7)) 4 (some q56_9))))))), (q56_1, .inr (5, [.ref (u60_2 0), .int 0, .int 0, .int 0, .int 0])), ((u60_2 0), .inl (cs 1, 3, .inl (fun _ => 0))), (q56_3, .inr (5, [.ref (u60_4 0), .int 0, .int 0, .int 0, .int 0])), ((u60_4 0), .inl (cs 1, 3, .inl (fun _ => 0))), (q56_5, .inr (5, [.ref (u60_6 0), .int 0, .int 0, .int 0, .int 0])), ((u60_6 0), .inl (cs 1, 3, .inl (fun _ => 0))), (q56_7, .inr (5, [.ref (u60_8 0), .int 0, .int 0, .int 0, .int 0])), ((u60_8 0), .inl (cs 1, 3, .inl (fun _ => 0))), (q56_9, .inr (5, [.ref (u60_10 0), .int 0, .int 0, .int 0, .int 0])), ((u60_10 0), .inl (cs 1, 3, .inl (fun _ => 0))), (q56_11, .inr (5, [.null, .int 0, .int 0, .int 0, .int 0]))] H := hP
  have hD : va_D A [(h0, .inr (4, [.ref q7_0, .int k, .int 0, .int 0, .int 0, .int 0, .int 0])), (q7_0, .inl (cs 4, 8, .inr (.inr (.inr (.inr (va_up (va_up (va_up (va_up (va_up (fun _ => none) 0 (some q56_1)) 1 (some q56_3)) 2 (some q56_5)) 3 (some q56_7)) 4 (some q56_9))))))), (q56_1, .inr (5, [.ref (u60_2 0), .int 0, .int 0, .int 0, .int 0])), ((u60_2 0), .inl (cs 1, 3, .inl (fun _ => 0))), (q56_3, .inr (5, [.ref (u60_4 0), .int 0, .int 0, .int 0, .int 0])), ((u60_4 0), .inl (cs 1, 3, .inl (fun _ => 0))), (q56_5, .inr (5, [.ref (u60_6 0), .int 0, .int 0, .int 0, .int 0])), ((u60_6 0), .inl (cs 1, 3, .inl (fun _ => 0))), (q56_7, .inr (5, [.ref (u60_8 0), .int 0, .int 0, .int 0, .int 0])), ((u60_8 0), .inl (cs 1, 3, .inl (fun _ => 0))), (q56_9, .inr (5, [.ref (u60_10 0), .int 0, .int 0, .int 0, .int 0])), ((u60_10 0), .inl (cs 1, 3, .inl (fun _ => 0))), (q56_11, .inr (5, [.null, .int 0, .int 0, .int 0, .int 0]))] := hD
  refine W.widen (k := 12) (n := 53) (by omega) (by omega) ?_
  refine lv_dup hx hb kd_Row_59 rfl ?_
  have hPc := hP.sub (ws' := [(q56_11, .inr (5, [.null, .int 0, .int 0, .int 0, .int 0]))]) [12] rfl
  have hDc := hD.sub (ws' := [(q56_11, .inr (5, [.null, .int 0, .int 0, .int 0, .int 0]))]) [12] (by decide) rfl
  have hFc := va_free (wc := [(q56_11, .inr (5, [.null, .int 0, .int 0, .int 0, .int 0]))]) hD hS hA [12] rfl
  refine va_callv (va_runIN (As := []) (rest := [.ref q56_11, .int 5, .ref q7_0]) ⟨hx, hb, hml, hown, k_one (hN.use kw_153)⟩ (kc_Block l D cs q56_11 H.size) ⟨va_cnB 0 (k_one (hN.use kw_153)) (k_good _ rfl) rfl rfl rfl (hN.is kw_151) (hN.use kw_54) (by decide +kernel) ⟨Nat.le_of_ble_eq_true rfl, Nat.le_of_ble_eq_true rfl⟩, rfl, hN.use kw_152⟩ ⟨kPre_blind, fun U hU hW => kPre_at hU hW hPc hK hDc hN⟩ rfl rfl hl.1 rfl (lv_room (Nat.le_of_ble_eq_true rfl)) kd_Row_60 ⟨by show _ ≤ 17; omega, by show _ ≤ 72; omega⟩) hS (fun q _ h => hFc q h) hFc (fun u60_12 t H1 locs ht hvm _ hB hz1 hk1 hS => ?_)
  obtain ⟨hP1, hD1⟩ := hB
  rw [ht] at hP1
  obtain ⟨hP, hD⟩ := va_join (wr := [(h0, .inr (4, [.ref q7_0, .int k, .int 0, .int 0, .int 0, .int 0, .int 0])), (q7_0, .inl (cs 4, 8, .inr (.inr (.inr (.inr (va_up (va_up (va_up (va_up (va_up (fun _ => none) 0 (some q56_1)) 1 (some q56_3)) 2 (some q56_5)) 3 (some q56_7)) 4 (some q56_9))))))), (q56_1, .inr (5, [.ref (u60_2 0), .int 0, .int 0, .int 0, .int 0])), ((u60_2 0), .inl (cs 1, 3, .inl (fun _ => 0))), (q56_3, .inr (5, [.ref (u60_4 0), .int 0, .int 0, .int 0, .int 0])), ((u60_4 0), .inl (cs 1, 3, .inl (fun _ => 0))), (q56_5, .inr (5, [.ref (u60_6 0), .int 0, .int 0, .int 0, .int 0])), ((u60_6 0), .inl (cs 1, 3, .inl (fun _ => 0))), (q56_7, .inr (5, [.ref (u60_8 0), .int 0, .int 0, .int 0, .int 0])), ((u60_8 0), .inl (cs 1, 3, .inl (fun _ => 0))), (q56_9, .inr (5, [.ref (u60_10 0), .int 0, .int 0, .int 0, .int 0])), ((u60_10 0), .inl (cs 1, 3, .inl (fun _ => 0)))]) (w1 := [(q56_11, .inr (5, [.ref (u60_12 0), .int 0, .int 0, .int 0, .int 0])), ((u60_12 0), .inl (cs 1, 3, .inl (fun _ => 0)))]) hP hD [12] [0, 1, 2, 3, 4, 5, 6, 7, 8, 9, 10, 11] rfl rfl (by decide) (by decide) hk1 hFc hP1 hD1
  generalize H1 = H at hP hS ⊢
  have hP : va_P D xm_cl [(h0, .inr (4, [.ref q7_0, .int k, .int 0, .int 0, .int 0, .int 0, .int 0])), (q7_0, .inl (cs 4, 8, .inr (.inr (.inr (.inr (va_up (va_up (va_up (va_up (va_up (fun _ => none) 0 (some q56_1)) 1 (some q56_3)) 2 (some q56_5)) 3 (some q56_7)) 4 (some q56_9))))))), (q56_1, .inr (5, [.ref (u60_2 0), .int 0, .int 0, .int 0, .int 0])), ((u60_2 0), .inl (cs 1, 3, .inl (fun _ => 0))), (q56_3, .inr (5, [.ref (u60_4 0), .int 0, .int 0, .int 0, .int 0])), ((u60_4 0), .inl (cs 1, 3, .inl (fun _ => 0))), (q56_5, .inr (5, [.ref (u60_6 0), .int 0, .int 0, .int 0, .int 0])), ((u60_6 0), .inl (cs 1, 3, .inl (fun _ => 0))), (q56_7, .inr (5, [.ref (u60_8 0), .int 0, .int 0, .int 0, .int 0])), ((u60_8 0), .inl (cs 1, 3, .inl (fun _ => 0))), (q56_9, .inr (5, [.ref (u60_10 0), .int 0, .int 0, .int 0, .int 0])), ((u60_10 0), .inl (cs 1, 3, .inl (fun _ => 0))), (q56_11, .inr (5, [.ref (u60_12 0), .int 0, .int 0, .int 0, .int 0])), ((u60_12 0), .inl (cs 1, 3, .inl (fun _ => 0)))] H := hP
  have hD : va_D A [(h0, .inr (4, [.ref q7_0, .int k, .int 0, .int 0, .int 0, .int 0, .int 0])), (q7_0, .inl (cs 4, 8, .inr (.inr (.inr (.inr (va_up (va_up (va_up (va_up (va_up (fun _ => none) 0 (some q56_1)) 1 (some q56_3)) 2 (some q56_5)) 3 (some q56_7)) 4 (some q56_9))))))), (q56_1, .inr (5, [.ref (u60_2 0), .int 0, .int 0, .int 0, .int 0])), ((u60_2 0), .inl (cs 1, 3, .inl (fun _ => 0))), (q56_3, .inr (5, [.ref (u60_4 0), .int 0, .int 0, .int 0, .int 0])), ((u60_4 0), .inl (cs 1, 3, .inl (fun _ => 0))), (q56_5, .inr (5, [.ref (u60_6 0), .int 0, .int 0, .int 0, .int 0])), ((u60_6 0), .inl (cs 1, 3, .inl (fun _ => 0))), (q56_7, .inr (5, [.ref (u60_8 0), .int 0, .int 0, .int 0, .int 0])), ((u60_8 0), .inl (cs 1, 3, .inl (fun _ => 0))), (q56_9, .inr (5, [.ref (u60_10 0), .int 0, .int 0, .int 0, .int 0])), ((u60_10 0), .inl (cs 1, 3, .inl (fun _ => 0))), (q56_11, .inr (5, [.ref (u60_12 0), .int 0, .int 0, .int 0, .int 0])), ((u60_12 0), .inl (cs 1, 3, .inl (fun _ => 0)))] := hD
  refine W.widen (k := 13) (n := 56) (by omega) (by omega) ?_
  refine va_astq (i := 5) hx hb hK hP hD hS 1 3 12 5 rfl rfl rfl rfl (by unfold vp_in; decide) kd_Row_63 (fun H locs hP hD hS => ?_)
  have hP : va_P D xm_cl [(h0, .inr (4, [.ref q7_0, .int k, .int 0, .int 0, .int 0, .int 0, .int 0])), (q7_0, .inl (cs 4, 8, .inr (.inr (.inr (.inr (va_up (va_up (va_up (va_up (va_up (va_up (fun _ => none) 0 (some q56_1)) 1 (some q56_3)) 2 (some q56_5)) 3 (some q56_7)) 4 (some q56_9)) 5 (some q56_11))))))), (q56_1, .inr (5, [.ref (u60_2 0), .int 0, .int 0, .int 0, .int 0])), ((u60_2 0), .inl (cs 1, 3, .inl (fun _ => 0))), (q56_3, .inr (5, [.ref (u60_4 0), .int 0, .int 0, .int 0, .int 0])), ((u60_4 0), .inl (cs 1, 3, .inl (fun _ => 0))), (q56_5, .inr (5, [.ref (u60_6 0), .int 0, .int 0, .int 0, .int 0])), ((u60_6 0), .inl (cs 1, 3, .inl (fun _ => 0))), (q56_7, .inr (5, [.ref (u60_8 0), .int 0, .int 0, .int 0, .int 0])), ((u60_8 0), .inl (cs 1, 3, .inl (fun _ => 0))), (q56_9, .inr (5, [.ref (u60_10 0), .int 0, .int 0, .int 0, .int 0])), ((u60_10 0), .inl (cs 1, 3, .inl (fun _ => 0))), (q56_11, .inr (5, [.ref (u60_12 0), .int 0, .int 0, .int 0, .int 0])), ((u60_12 0), .inl (cs 1, 3, .inl (fun _ => 0)))] H := hP
  have hD : va_D A [(h0, .inr (4, [.ref q7_0, .int k, .int 0, .int 0, .int 0, .int 0, .int 0])), (q7_0, .inl (cs 4, 8, .inr (.inr (.inr (.inr (va_up (va_up (va_up (va_up (va_up (va_up (fun _ => none) 0 (some q56_1)) 1 (some q56_3)) 2 (some q56_5)) 3 (some q56_7)) 4 (some q56_9)) 5 (some q56_11))))))), (q56_1, .inr (5, [.ref (u60_2 0), .int 0, .int 0, .int 0, .int 0])), ((u60_2 0), .inl (cs 1, 3, .inl (fun _ => 0))), (q56_3, .inr (5, [.ref (u60_4 0), .int 0, .int 0, .int 0, .int 0])), ((u60_4 0), .inl (cs 1, 3, .inl (fun _ => 0))), (q56_5, .inr (5, [.ref (u60_6 0), .int 0, .int 0, .int 0, .int 0])), ((u60_6 0), .inl (cs 1, 3, .inl (fun _ => 0))), (q56_7, .inr (5, [.ref (u60_8 0), .int 0, .int 0, .int 0, .int 0])), ((u60_8 0), .inl (cs 1, 3, .inl (fun _ => 0))), (q56_9, .inr (5, [.ref (u60_10 0), .int 0, .int 0, .int 0, .int 0])), ((u60_10 0), .inl (cs 1, 3, .inl (fun _ => 0))), (q56_11, .inr (5, [.ref (u60_12 0), .int 0, .int 0, .int 0, .int 0])), ((u60_12 0), .inl (cs 1, 3, .inl (fun _ => 0)))] := hD
  refine lv_iinc (nL := 3) (k := 0) (x := 5) (v := 6) (lv' := [(2, .int 6), (0, .ref h0), (1, .int k)]) hx hb kd_Row_64 hl rfl (by decide) (by decide) rfl (fun ls hl => ?_)
  have hl : lv_has ls 3 [(2, .int 6), (0, .ref h0), (1, .int k)] := hl
  refine lv_goto (tgt := 45) hx hb kd_Row_67 (by decide) ?_
  refine lv_iload_n hx hb kd_Row_45 rfl (lv_at hl 0 rfl) ?_
  refine lv_bipush (v := 8) hx hb kd_Row_46 (by decide) ?_
  refine lv_icmp_ge (tgt := 70) hx hb kd_Row_48 (by decide) (fun hf => absurd hf (by decide)) (fun _ => ?_)
  refine lv_aload_n hx hb kd_Row_51 rfl (lv_at hl 1 rfl) ?_
  refine va_get (D := D) (ci := 4) (v := .ref q7_0) (C := "LayerFeeder$Row") (T := xm_T4) (N := 7) hx hb (kwc4 hN) (fun _ h => h) hown hK hP 0 rfl rfl 0 (by decide) (hN.use kw_178) (fun _ h9 => h9) rfl kd_Row_52 ?_
  refine lv_iload_n hx hb kd_Row_55 rfl (lv_at hl 0 rfl) ?_
  refine va_new (ci := 5) (fs := [.null, .int 0, .int 0, .int 0, .int 0]) (C := "LayerFeeder$Block") (T := xm_T5) (N := 5) hx hb (kwc5 hN) (fun _ h => h) ky5 kt5 hown (hN.use kw_148) (hN.use kw_150) (hN.use kw_54) hK hP hD hS hA rfl (by decide +kernel) (by show _ ≤ 17; omega) (by show _ ≤ 72; omega) kd_Row_56 (fun q56_13 H hP hD hS => ?_)
  have hP : va_P D xm_cl [(h0, .inr (4, [.ref q7_0, .int k, .int 0, .int 0, .int 0, .int 0, .int 0])), (q7_0, .inl (cs 4, 8, .inr (.inr (.inr (.inr (va_up (va_up (va_up (va_up (va_up (va_up (fun _ => none) 0 (some q56_1)) 1 (some q56_3)) 2 (some q56_5)) 3 (some q56_7)) 4 (some q56_9)) 5 (some q56_11))))))), (q56_1, .inr (5, [.ref (u60_2 0), .int 0, .int 0, .int 0, .int 0])), ((u60_2 0), .inl (cs 1, 3, .inl (fun _ => 0))), (q56_3, .inr (5, [.ref (u60_4 0), .int 0, .int 0, .int 0, .int 0])), ((u60_4 0), .inl (cs 1, 3, .inl (fun _ => 0))), (q56_5, .inr (5, [.ref (u60_6 0), .int 0, .int 0, .int 0, .int 0])), ((u60_6 0), .inl (cs 1, 3, .inl (fun _ => 0))), (q56_7, .inr (5, [.ref (u60_8 0), .int 0, .int 0, .int 0, .int 0])), ((u60_8 0), .inl (cs 1, 3, .inl (fun _ => 0))), (q56_9, .inr (5, [.ref (u60_10 0), .int 0, .int 0, .int 0, .int 0])), ((u60_10 0), .inl (cs 1, 3, .inl (fun _ => 0))), (q56_11, .inr (5, [.ref (u60_12 0), .int 0, .int 0, .int 0, .int 0])), ((u60_12 0), .inl (cs 1, 3, .inl (fun _ => 0))), (q56_13, .inr (5, [.null, .int 0, .int 0, .int 0, .int 0]))] H := hP
  have hD : va_D A [(h0, .inr (4, [.ref q7_0, .int k, .int 0, .int 0, .int 0, .int 0, .int 0])), (q7_0, .inl (cs 4, 8, .inr (.inr (.inr (.inr (va_up (va_up (va_up (va_up (va_up (va_up (fun _ => none) 0 (some q56_1)) 1 (some q56_3)) 2 (some q56_5)) 3 (some q56_7)) 4 (some q56_9)) 5 (some q56_11))))))), (q56_1, .inr (5, [.ref (u60_2 0), .int 0, .int 0, .int 0, .int 0])), ((u60_2 0), .inl (cs 1, 3, .inl (fun _ => 0))), (q56_3, .inr (5, [.ref (u60_4 0), .int 0, .int 0, .int 0, .int 0])), ((u60_4 0), .inl (cs 1, 3, .inl (fun _ => 0))), (q56_5, .inr (5, [.ref (u60_6 0), .int 0, .int 0, .int 0, .int 0])), ((u60_6 0), .inl (cs 1, 3, .inl (fun _ => 0))), (q56_7, .inr (5, [.ref (u60_8 0), .int 0, .int 0, .int 0, .int 0])), ((u60_8 0), .inl (cs 1, 3, .inl (fun _ => 0))), (q56_9, .inr (5, [.ref (u60_10 0), .int 0, .int 0, .int 0, .int 0])), ((u60_10 0), .inl (cs 1, 3, .inl (fun _ => 0))), (q56_11, .inr (5, [.ref (u60_12 0), .int 0, .int 0, .int 0, .int 0])), ((u60_12 0), .inl (cs 1, 3, .inl (fun _ => 0))), (q56_13, .inr (5, [.null, .int 0, .int 0, .int 0, .int 0]))] := hD
  refine W.widen (k := 14) (n := 61) (by omega) (by omega) ?_
  refine lv_dup hx hb kd_Row_59 rfl ?_
  have hPc := hP.sub (ws' := [(q56_13, .inr (5, [.null, .int 0, .int 0, .int 0, .int 0]))]) [14] rfl
  have hDc := hD.sub (ws' := [(q56_13, .inr (5, [.null, .int 0, .int 0, .int 0, .int 0]))]) [14] (by decide) rfl
  have hFc := va_free (wc := [(q56_13, .inr (5, [.null, .int 0, .int 0, .int 0, .int 0]))]) hD hS hA [14] rfl
  refine va_callv (va_runIN (As := []) (rest := [.ref q56_13, .int 6, .ref q7_0]) ⟨hx, hb, hml, hown, k_one (hN.use kw_153)⟩ (kc_Block l D cs q56_13 H.size) ⟨va_cnB 0 (k_one (hN.use kw_153)) (k_good _ rfl) rfl rfl rfl (hN.is kw_151) (hN.use kw_54) (by decide +kernel) ⟨Nat.le_of_ble_eq_true rfl, Nat.le_of_ble_eq_true rfl⟩, rfl, hN.use kw_152⟩ ⟨kPre_blind, fun U hU hW => kPre_at hU hW hPc hK hDc hN⟩ rfl rfl hl.1 rfl (lv_room (Nat.le_of_ble_eq_true rfl)) kd_Row_60 ⟨by show _ ≤ 17; omega, by show _ ≤ 72; omega⟩) hS (fun q _ h => hFc q h) hFc (fun u60_14 t H1 locs ht hvm _ hB hz1 hk1 hS => ?_)
  obtain ⟨hP1, hD1⟩ := hB
  rw [ht] at hP1
  obtain ⟨hP, hD⟩ := va_join (wr := [(h0, .inr (4, [.ref q7_0, .int k, .int 0, .int 0, .int 0, .int 0, .int 0])), (q7_0, .inl (cs 4, 8, .inr (.inr (.inr (.inr (va_up (va_up (va_up (va_up (va_up (va_up (fun _ => none) 0 (some q56_1)) 1 (some q56_3)) 2 (some q56_5)) 3 (some q56_7)) 4 (some q56_9)) 5 (some q56_11))))))), (q56_1, .inr (5, [.ref (u60_2 0), .int 0, .int 0, .int 0, .int 0])), ((u60_2 0), .inl (cs 1, 3, .inl (fun _ => 0))), (q56_3, .inr (5, [.ref (u60_4 0), .int 0, .int 0, .int 0, .int 0])), ((u60_4 0), .inl (cs 1, 3, .inl (fun _ => 0))), (q56_5, .inr (5, [.ref (u60_6 0), .int 0, .int 0, .int 0, .int 0])), ((u60_6 0), .inl (cs 1, 3, .inl (fun _ => 0))), (q56_7, .inr (5, [.ref (u60_8 0), .int 0, .int 0, .int 0, .int 0])), ((u60_8 0), .inl (cs 1, 3, .inl (fun _ => 0))), (q56_9, .inr (5, [.ref (u60_10 0), .int 0, .int 0, .int 0, .int 0])), ((u60_10 0), .inl (cs 1, 3, .inl (fun _ => 0))), (q56_11, .inr (5, [.ref (u60_12 0), .int 0, .int 0, .int 0, .int 0])), ((u60_12 0), .inl (cs 1, 3, .inl (fun _ => 0)))]) (w1 := [(q56_13, .inr (5, [.ref (u60_14 0), .int 0, .int 0, .int 0, .int 0])), ((u60_14 0), .inl (cs 1, 3, .inl (fun _ => 0)))]) hP hD [14] [0, 1, 2, 3, 4, 5, 6, 7, 8, 9, 10, 11, 12, 13] rfl rfl (by decide) (by decide) hk1 hFc hP1 hD1
  generalize H1 = H at hP hS ⊢
  have hP : va_P D xm_cl [(h0, .inr (4, [.ref q7_0, .int k, .int 0, .int 0, .int 0, .int 0, .int 0])), (q7_0, .inl (cs 4, 8, .inr (.inr (.inr (.inr (va_up (va_up (va_up (va_up (va_up (va_up (fun _ => none) 0 (some q56_1)) 1 (some q56_3)) 2 (some q56_5)) 3 (some q56_7)) 4 (some q56_9)) 5 (some q56_11))))))), (q56_1, .inr (5, [.ref (u60_2 0), .int 0, .int 0, .int 0, .int 0])), ((u60_2 0), .inl (cs 1, 3, .inl (fun _ => 0))), (q56_3, .inr (5, [.ref (u60_4 0), .int 0, .int 0, .int 0, .int 0])), ((u60_4 0), .inl (cs 1, 3, .inl (fun _ => 0))), (q56_5, .inr (5, [.ref (u60_6 0), .int 0, .int 0, .int 0, .int 0])), ((u60_6 0), .inl (cs 1, 3, .inl (fun _ => 0))), (q56_7, .inr (5, [.ref (u60_8 0), .int 0, .int 0, .int 0, .int 0])), ((u60_8 0), .inl (cs 1, 3, .inl (fun _ => 0))), (q56_9, .inr (5, [.ref (u60_10 0), .int 0, .int 0, .int 0, .int 0])), ((u60_10 0), .inl (cs 1, 3, .inl (fun _ => 0))), (q56_11, .inr (5, [.ref (u60_12 0), .int 0, .int 0, .int 0, .int 0])), ((u60_12 0), .inl (cs 1, 3, .inl (fun _ => 0))), (q56_13, .inr (5, [.ref (u60_14 0), .int 0, .int 0, .int 0, .int 0])), ((u60_14 0), .inl (cs 1, 3, .inl (fun _ => 0)))] H := hP
  have hD : va_D A [(h0, .inr (4, [.ref q7_0, .int k, .int 0, .int 0, .int 0, .int 0, .int 0])), (q7_0, .inl (cs 4, 8, .inr (.inr (.inr (.inr (va_up (va_up (va_up (va_up (va_up (va_up (fun _ => none) 0 (some q56_1)) 1 (some q56_3)) 2 (some q56_5)) 3 (some q56_7)) 4 (some q56_9)) 5 (some q56_11))))))), (q56_1, .inr (5, [.ref (u60_2 0), .int 0, .int 0, .int 0, .int 0])), ((u60_2 0), .inl (cs 1, 3, .inl (fun _ => 0))), (q56_3, .inr (5, [.ref (u60_4 0), .int 0, .int 0, .int 0, .int 0])), ((u60_4 0), .inl (cs 1, 3, .inl (fun _ => 0))), (q56_5, .inr (5, [.ref (u60_6 0), .int 0, .int 0, .int 0, .int 0])), ((u60_6 0), .inl (cs 1, 3, .inl (fun _ => 0))), (q56_7, .inr (5, [.ref (u60_8 0), .int 0, .int 0, .int 0, .int 0])), ((u60_8 0), .inl (cs 1, 3, .inl (fun _ => 0))), (q56_9, .inr (5, [.ref (u60_10 0), .int 0, .int 0, .int 0, .int 0])), ((u60_10 0), .inl (cs 1, 3, .inl (fun _ => 0))), (q56_11, .inr (5, [.ref (u60_12 0), .int 0, .int 0, .int 0, .int 0])), ((u60_12 0), .inl (cs 1, 3, .inl (fun _ => 0))), (q56_13, .inr (5, [.ref (u60_14 0), .int 0, .int 0, .int 0, .int 0])), ((u60_14 0), .inl (cs 1, 3, .inl (fun _ => 0)))] := hD
  refine W.widen (k := 15) (n := 64) (by omega) (by omega) ?_
  refine va_astq (i := 6) hx hb hK hP hD hS 1 3 14 5 rfl rfl rfl rfl (by unfold vp_in; decide) kd_Row_63 (fun H locs hP hD hS => ?_)
  have hP : va_P D xm_cl [(h0, .inr (4, [.ref q7_0, .int k, .int 0, .int 0, .int 0, .int 0, .int 0])), (q7_0, .inl (cs 4, 8, .inr (.inr (.inr (.inr (va_up (va_up (va_up (va_up (va_up (va_up (va_up (fun _ => none) 0 (some q56_1)) 1 (some q56_3)) 2 (some q56_5)) 3 (some q56_7)) 4 (some q56_9)) 5 (some q56_11)) 6 (some q56_13))))))), (q56_1, .inr (5, [.ref (u60_2 0), .int 0, .int 0, .int 0, .int 0])), ((u60_2 0), .inl (cs 1, 3, .inl (fun _ => 0))), (q56_3, .inr (5, [.ref (u60_4 0), .int 0, .int 0, .int 0, .int 0])), ((u60_4 0), .inl (cs 1, 3, .inl (fun _ => 0))), (q56_5, .inr (5, [.ref (u60_6 0), .int 0, .int 0, .int 0, .int 0])), ((u60_6 0), .inl (cs 1, 3, .inl (fun _ => 0))), (q56_7, .inr (5, [.ref (u60_8 0), .int 0, .int 0, .int 0, .int 0])), ((u60_8 0), .inl (cs 1, 3, .inl (fun _ => 0))), (q56_9, .inr (5, [.ref (u60_10 0), .int 0, .int 0, .int 0, .int 0])), ((u60_10 0), .inl (cs 1, 3, .inl (fun _ => 0))), (q56_11, .inr (5, [.ref (u60_12 0), .int 0, .int 0, .int 0, .int 0])), ((u60_12 0), .inl (cs 1, 3, .inl (fun _ => 0))), (q56_13, .inr (5, [.ref (u60_14 0), .int 0, .int 0, .int 0, .int 0])), ((u60_14 0), .inl (cs 1, 3, .inl (fun _ => 0)))] H := hP
  have hD : va_D A [(h0, .inr (4, [.ref q7_0, .int k, .int 0, .int 0, .int 0, .int 0, .int 0])), (q7_0, .inl (cs 4, 8, .inr (.inr (.inr (.inr (va_up (va_up (va_up (va_up (va_up (va_up (va_up (fun _ => none) 0 (some q56_1)) 1 (some q56_3)) 2 (some q56_5)) 3 (some q56_7)) 4 (some q56_9)) 5 (some q56_11)) 6 (some q56_13))))))), (q56_1, .inr (5, [.ref (u60_2 0), .int 0, .int 0, .int 0, .int 0])), ((u60_2 0), .inl (cs 1, 3, .inl (fun _ => 0))), (q56_3, .inr (5, [.ref (u60_4 0), .int 0, .int 0, .int 0, .int 0])), ((u60_4 0), .inl (cs 1, 3, .inl (fun _ => 0))), (q56_5, .inr (5, [.ref (u60_6 0), .int 0, .int 0, .int 0, .int 0])), ((u60_6 0), .inl (cs 1, 3, .inl (fun _ => 0))), (q56_7, .inr (5, [.ref (u60_8 0), .int 0, .int 0, .int 0, .int 0])), ((u60_8 0), .inl (cs 1, 3, .inl (fun _ => 0))), (q56_9, .inr (5, [.ref (u60_10 0), .int 0, .int 0, .int 0, .int 0])), ((u60_10 0), .inl (cs 1, 3, .inl (fun _ => 0))), (q56_11, .inr (5, [.ref (u60_12 0), .int 0, .int 0, .int 0, .int 0])), ((u60_12 0), .inl (cs 1, 3, .inl (fun _ => 0))), (q56_13, .inr (5, [.ref (u60_14 0), .int 0, .int 0, .int 0, .int 0])), ((u60_14 0), .inl (cs 1, 3, .inl (fun _ => 0)))] := hD
  refine lv_iinc (nL := 3) (k := 0) (x := 6) (v := 7) (lv' := [(2, .int 7), (0, .ref h0), (1, .int k)]) hx hb kd_Row_64 hl rfl (by decide) (by decide) rfl (fun ls hl => ?_)
  have hl : lv_has ls 3 [(2, .int 7), (0, .ref h0), (1, .int k)] := hl
  refine lv_goto (tgt := 45) hx hb kd_Row_67 (by decide) ?_
  refine lv_iload_n hx hb kd_Row_45 rfl (lv_at hl 0 rfl) ?_
  refine lv_bipush (v := 8) hx hb kd_Row_46 (by decide) ?_
  refine lv_icmp_ge (tgt := 70) hx hb kd_Row_48 (by decide) (fun hf => absurd hf (by decide)) (fun _ => ?_)
  refine lv_aload_n hx hb kd_Row_51 rfl (lv_at hl 1 rfl) ?_
  refine va_get (D := D) (ci := 4) (v := .ref q7_0) (C := "LayerFeeder$Row") (T := xm_T4) (N := 7) hx hb (kwc4 hN) (fun _ h => h) hown hK hP 0 rfl rfl 0 (by decide) (hN.use kw_178) (fun _ h9 => h9) rfl kd_Row_52 ?_
  refine lv_iload_n hx hb kd_Row_55 rfl (lv_at hl 0 rfl) ?_
  refine va_new (ci := 5) (fs := [.null, .int 0, .int 0, .int 0, .int 0]) (C := "LayerFeeder$Block") (T := xm_T5) (N := 5) hx hb (kwc5 hN) (fun _ h => h) ky5 kt5 hown (hN.use kw_148) (hN.use kw_150) (hN.use kw_54) hK hP hD hS hA rfl (by decide +kernel) (by show _ ≤ 17; omega) (by show _ ≤ 72; omega) kd_Row_56 (fun q56_15 H hP hD hS => ?_)
  have hP : va_P D xm_cl [(h0, .inr (4, [.ref q7_0, .int k, .int 0, .int 0, .int 0, .int 0, .int 0])), (q7_0, .inl (cs 4, 8, .inr (.inr (.inr (.inr (va_up (va_up (va_up (va_up (va_up (va_up (va_up (fun _ => none) 0 (some q56_1)) 1 (some q56_3)) 2 (some q56_5)) 3 (some q56_7)) 4 (some q56_9)) 5 (some q56_11)) 6 (some q56_13))))))), (q56_1, .inr (5, [.ref (u60_2 0), .int 0, .int 0, .int 0, .int 0])), ((u60_2 0), .inl (cs 1, 3, .inl (fun _ => 0))), (q56_3, .inr (5, [.ref (u60_4 0), .int 0, .int 0, .int 0, .int 0])), ((u60_4 0), .inl (cs 1, 3, .inl (fun _ => 0))), (q56_5, .inr (5, [.ref (u60_6 0), .int 0, .int 0, .int 0, .int 0])), ((u60_6 0), .inl (cs 1, 3, .inl (fun _ => 0))), (q56_7, .inr (5, [.ref (u60_8 0), .int 0, .int 0, .int 0, .int 0])), ((u60_8 0), .inl (cs 1, 3, .inl (fun _ => 0))), (q56_9, .inr (5, [.ref (u60_10 0), .int 0, .int 0, .int 0, .int 0])), ((u60_10 0), .inl (cs 1, 3, .inl (fun _ => 0))), (q56_11, .inr (5, [.ref (u60_12 0), .int 0, .int 0, .int 0, .int 0])), ((u60_12 0), .inl (cs 1, 3, .inl (fun _ => 0))), (q56_13, .inr (5, [.ref (u60_14 0), .int 0, .int 0, .int 0, .int 0])), ((u60_14 0), .inl (cs 1, 3, .inl (fun _ => 0))), (q56_15, .inr (5, [.null, .int 0, .int 0, .int 0, .int 0]))] H := hP
  have hD : va_D A [(h0, .inr (4, [.ref q7_0, .int k, .int 0, .int 0, .int 0, .int 0, .int 0])), (q7_0, .inl (cs 4, 8, .inr (.inr (.inr (.inr (va_up (va_up (va_up (va_up (va_up (va_up (va_up (fun _ => none) 0 (some q56_1)) 1 (some q56_3)) 2 (some q56_5)) 3 (some q56_7)) 4 (some q56_9)) 5 (some q56_11)) 6 (some q56_13))))))), (q56_1, .inr (5, [.ref (u60_2 0), .int 0, .int 0, .int 0, .int 0])), ((u60_2 0), .inl (cs 1, 3, .inl (fun _ => 0))), (q56_3, .inr (5, [.ref (u60_4 0), .int 0, .int 0, .int 0, .int 0])), ((u60_4 0), .inl (cs 1, 3, .inl (fun _ => 0))), (q56_5, .inr (5, [.ref (u60_6 0), .int 0, .int 0, .int 0, .int 0])), ((u60_6 0), .inl (cs 1, 3, .inl (fun _ => 0))), (q56_7, .inr (5, [.ref (u60_8 0), .int 0, .int 0, .int 0, .int 0])), ((u60_8 0), .inl (cs 1, 3, .inl (fun _ => 0))), (q56_9, .inr (5, [.ref (u60_10 0), .int 0, .int 0, .int 0, .int 0])), ((u60_10 0), .inl (cs 1, 3, .inl (fun _ => 0))), (q56_11, .inr (5, [.ref (u60_12 0), .int 0, .int 0, .int 0, .int 0])), ((u60_12 0), .inl (cs 1, 3, .inl (fun _ => 0))), (q56_13, .inr (5, [.ref (u60_14 0), .int 0, .int 0, .int 0, .int 0])), ((u60_14 0), .inl (cs 1, 3, .inl (fun _ => 0))), (q56_15, .inr (5, [.null, .int 0, .int 0, .int 0, .int 0]))] := hD
  refine W.widen (k := 16) (n := 69) (by omega) (by omega) ?_
  refine lv_dup hx hb kd_Row_59 rfl ?_
  have hPc := hP.sub (ws' := [(q56_15, .inr (5, [.null, .int 0, .int 0, .int 0, .int 0]))]) [16] rfl
  have hDc := hD.sub (ws' := [(q56_15, .inr (5, [.null, .int 0, .int 0, .int 0, .int 0]))]) [16] (by decide) rfl
  have hFc := va_free (wc := [(q56_15, .inr (5, [.null, .int 0, .int 0, .int 0, .int 0]))]) hD hS hA [16] rfl
  refine va_callv (va_runIN (As := []) (rest := [.ref q56_15, .int 7, .ref q7_0]) ⟨hx, hb, hml, hown, k_one (hN.use kw_153)⟩ (kc_Block l D cs q56_15 H.size) ⟨va_cnB 0 (k_one (hN.use kw_153)) (k_good _ rfl) rfl rfl rfl (hN.is kw_151) (hN.use kw_54) (by decide +kernel) ⟨Nat.le_of_ble_eq_true rfl, Nat.le_of_ble_eq_true rfl⟩, rfl, hN.use kw_152⟩ ⟨kPre_blind, fun U hU hW => kPre_at hU hW hPc hK hDc hN⟩ rfl rfl hl.1 rfl (lv_room (Nat.le_of_ble_eq_true rfl)) kd_Row_60 ⟨by show _ ≤ 17; omega, by show _ ≤ 72; omega⟩) hS (fun q _ h => hFc q h) hFc (fun u60_16 t H1 locs ht hvm _ hB hz1 hk1 hS => ?_)
  obtain ⟨hP1, hD1⟩ := hB
  rw [ht] at hP1
  obtain ⟨hP, hD⟩ := va_join (wr := [(h0, .inr (4, [.ref q7_0, .int k, .int 0, .int 0, .int 0, .int 0, .int 0])), (q7_0, .inl (cs 4, 8, .inr (.inr (.inr (.inr (va_up (va_up (va_up (va_up (va_up (va_up (va_up (fun _ => none) 0 (some q56_1)) 1 (some q56_3)) 2 (some q56_5)) 3 (some q56_7)) 4 (some q56_9)) 5 (some q56_11)) 6 (some q56_13))))))), (q56_1, .inr (5, [.ref (u60_2 0), .int 0, .int 0, .int 0, .int 0])), ((u60_2 0), .inl (cs 1, 3, .inl (fun _ => 0))), (q56_3, .inr (5, [.ref (u60_4 0), .int 0, .int 0, .int 0, .int 0])), ((u60_4 0), .inl (cs 1, 3, .inl (fun _ => 0))), (q56_5, .inr (5, [.ref (u60_6 0), .int 0, .int 0, .int 0, .int 0])), ((u60_6 0), .inl (cs 1, 3, .inl (fun _ => 0))), (q56_7, .inr (5, [.ref (u60_8 0), .int 0, .int 0, .int 0, .int 0])), ((u60_8 0), .inl (cs 1, 3, .inl (fun _ => 0))), (q56_9, .inr (5, [.ref (u60_10 0), .int 0, .int 0, .int 0, .int 0])), ((u60_10 0), .inl (cs 1, 3, .inl (fun _ => 0))), (q56_11, .inr (5, [.ref (u60_12 0), .int 0, .int 0, .int 0, .int 0])), ((u60_12 0), .inl (cs 1, 3, .inl (fun _ => 0))), (q56_13, .inr (5, [.ref (u60_14 0), .int 0, .int 0, .int 0, .int 0])), ((u60_14 0), .inl (cs 1, 3, .inl (fun _ => 0)))]) (w1 := [(q56_15, .inr (5, [.ref (u60_16 0), .int 0, .int 0, .int 0, .int 0])), ((u60_16 0), .inl (cs 1, 3, .inl (fun _ => 0)))]) hP hD [16] [0, 1, 2, 3, 4, 5, 6, 7, 8, 9, 10, 11, 12, 13, 14, 15] rfl rfl (by decide) (by decide) hk1 hFc hP1 hD1
  generalize H1 = H at hP hS ⊢
  have hP : va_P D xm_cl [(h0, .inr (4, [.ref q7_0, .int k, .int 0, .int 0, .int 0, .int 0, .int 0])), (q7_0, .inl (cs 4, 8, .inr (.inr (.inr (.inr (va_up (va_up (va_up (va_up (va_up (va_up (va_up (fun _ => none) 0 (some q56_1)) 1 (some q56_3)) 2 (some q56_5)) 3 (some q56_7)) 4 (some q56_9)) 5 (some q56_11)) 6 (some q56_13))))))), (q56_1, .inr (5, [.ref (u60_2 0), .int 0, .int 0, .int 0, .int 0])), ((u60_2 0), .inl (cs 1, 3, .inl (fun _ => 0))), (q56_3, .inr (5, [.ref (u60_4 0), .int 0, .int 0, .int 0, .int 0])), ((u60_4 0), .inl (cs 1, 3, .inl (fun _ => 0))), (q56_5, .inr (5, [.ref (u60_6 0), .int 0, .int 0, .int 0, .int 0])), ((u60_6 0), .inl (cs 1, 3, .inl (fun _ => 0))), (q56_7, .inr (5, [.ref (u60_8 0), .int 0, .int 0, .int 0, .int 0])), ((u60_8 0), .inl (cs 1, 3, .inl (fun _ => 0))), (q56_9, .inr (5, [.ref (u60_10 0), .int 0, .int 0, .int 0, .int 0])), ((u60_10 0), .inl (cs 1, 3, .inl (fun _ => 0))), (q56_11, .inr (5, [.ref (u60_12 0), .int 0, .int 0, .int 0, .int 0])), ((u60_12 0), .inl (cs 1, 3, .inl (fun _ => 0))), (q56_13, .inr (5, [.ref (u60_14 0), .int 0, .int 0, .int 0, .int 0])), ((u60_14 0), .inl (cs 1, 3, .inl (fun _ => 0))), (q56_15, .inr (5, [.ref (u60_16 0), .int 0, .int 0, .int 0, .int 0])), ((u60_16 0), .inl (cs 1, 3, .inl (fun _ => 0)))] H := hP
  have hD : va_D A [(h0, .inr (4, [.ref q7_0, .int k, .int 0, .int 0, .int 0, .int 0, .int 0])), (q7_0, .inl (cs 4, 8, .inr (.inr (.inr (.inr (va_up (va_up (va_up (va_up (va_up (va_up (va_up (fun _ => none) 0 (some q56_1)) 1 (some q56_3)) 2 (some q56_5)) 3 (some q56_7)) 4 (some q56_9)) 5 (some q56_11)) 6 (some q56_13))))))), (q56_1, .inr (5, [.ref (u60_2 0), .int 0, .int 0, .int 0, .int 0])), ((u60_2 0), .inl (cs 1, 3, .inl (fun _ => 0))), (q56_3, .inr (5, [.ref (u60_4 0), .int 0, .int 0, .int 0, .int 0])), ((u60_4 0), .inl (cs 1, 3, .inl (fun _ => 0))), (q56_5, .inr (5, [.ref (u60_6 0), .int 0, .int 0, .int 0, .int 0])), ((u60_6 0), .inl (cs 1, 3, .inl (fun _ => 0))), (q56_7, .inr (5, [.ref (u60_8 0), .int 0, .int 0, .int 0, .int 0])), ((u60_8 0), .inl (cs 1, 3, .inl (fun _ => 0))), (q56_9, .inr (5, [.ref (u60_10 0), .int 0, .int 0, .int 0, .int 0])), ((u60_10 0), .inl (cs 1, 3, .inl (fun _ => 0))), (q56_11, .inr (5, [.ref (u60_12 0), .int 0, .int 0, .int 0, .int 0])), ((u60_12 0), .inl (cs 1, 3, .inl (fun _ => 0))), (q56_13, .inr (5, [.ref (u60_14 0), .int 0, .int 0, .int 0, .int 0])), ((u60_14 0), .inl (cs 1, 3, .inl (fun _ => 0))), (q56_15, .inr (5, [.ref (u60_16 0), .int 0, .int 0, .int 0, .int 0])), ((u60_16 0), .inl (cs 1, 3, .inl (fun _ => 0)))] := hD
  refine W.widen (k := 17) (n := 72) (by omega) (by omega) ?_
  refine va_astq (i := 7) hx hb hK hP hD hS 1 3 16 5 rfl rfl rfl rfl (by unfold vp_in; decide) kd_Row_63 (fun H locs hP hD hS => ?_)
  have hP : va_P D xm_cl [(h0, .inr (4, [.ref q7_0, .int k, .int 0, .int 0, .int 0, .int 0, .int 0])), (q7_0, .inl (cs 4, 8, .inr (.inr (.inr (.inr (va_up (va_up (va_up (va_up (va_up (va_up (va_up (va_up (fun _ => none) 0 (some q56_1)) 1 (some q56_3)) 2 (some q56_5)) 3 (some q56_7)) 4 (some q56_9)) 5 (some q56_11)) 6 (some q56_13)) 7 (some q56_15))))))), (q56_1, .inr (5, [.ref (u60_2 0), .int 0, .int 0, .int 0, .int 0])), ((u60_2 0), .inl (cs 1, 3, .inl (fun _ => 0))), (q56_3, .inr (5, [.ref (u60_4 0), .int 0, .int 0, .int 0, .int 0])), ((u60_4 0), .inl (cs 1, 3, .inl (fun _ => 0))), (q56_5, .inr (5, [.ref (u60_6 0), .int 0, .int 0, .int 0, .int 0])), ((u60_6 0), .inl (cs 1, 3, .inl (fun _ => 0))), (q56_7, .inr (5, [.ref (u60_8 0), .int 0, .int 0, .int 0, .int 0])), ((u60_8 0), .inl (cs 1, 3, .inl (fun _ => 0))), (q56_9, .inr (5, [.ref (u60_10 0), .int 0, .int 0, .int 0, .int 0])), ((u60_10 0), .inl (cs 1, 3, .inl (fun _ => 0))), (q56_11, .inr (5, [.ref (u60_12 0), .int 0, .int 0, .int 0, .int 0])), ((u60_12 0), .inl (cs 1, 3, .inl (fun _ => 0))), (q56_13, .inr (5, [.ref (u60_14 0), .int 0, .int 0, .int 0, .int 0])), ((u60_14 0), .inl (cs 1, 3, .inl (fun _ => 0))), (q56_15, .inr (5, [.ref (u60_16 0), .int 0, .int 0, .int 0, .int 0])), ((u60_16 0), .inl (cs 1, 3, .inl (fun _ => 0)))] H := hP
  have hD : va_D A [(h0, .inr (4, [.ref q7_0, .int k, .int 0, .int 0, .int 0, .int 0, .int 0])), (q7_0, .inl (cs 4, 8, .inr (.inr (.inr (.inr (va_up (va_up (va_up (va_up (va_up (va_up (va_up (va_up (fun _ => none) 0 (some q56_1)) 1 (some q56_3)) 2 (some q56_5)) 3 (some q56_7)) 4 (some q56_9)) 5 (some q56_11)) 6 (some q56_13)) 7 (some q56_15))))))), (q56_1, .inr (5, [.ref (u60_2 0), .int 0, .int 0, .int 0, .int 0])), ((u60_2 0), .inl (cs 1, 3, .inl (fun _ => 0))), (q56_3, .inr (5, [.ref (u60_4 0), .int 0, .int 0, .int 0, .int 0])), ((u60_4 0), .inl (cs 1, 3, .inl (fun _ => 0))), (q56_5, .inr (5, [.ref (u60_6 0), .int 0, .int 0, .int 0, .int 0])), ((u60_6 0), .inl (cs 1, 3, .inl (fun _ => 0))), (q56_7, .inr (5, [.ref (u60_8 0), .int 0, .int 0, .int 0, .int 0])), ((u60_8 0), .inl (cs 1, 3, .inl (fun _ => 0))), (q56_9, .inr (5, [.ref (u60_10 0), .int 0, .int 0, .int 0, .int 0])), ((u60_10 0), .inl (cs 1, 3, .inl (fun _ => 0))), (q56_11, .inr (5, [.ref (u60_12 0), .int 0, .int 0, .int 0, .int 0])), ((u60_12 0), .inl (cs 1, 3, .inl (fun _ => 0))), (q56_13, .inr (5, [.ref (u60_14 0), .int 0, .int 0, .int 0, .int 0])), ((u60_14 0), .inl (cs 1, 3, .inl (fun _ => 0))), (q56_15, .inr (5, [.ref (u60_16 0), .int 0, .int 0, .int 0, .int 0])), ((u60_16 0), .inl (cs 1, 3, .inl (fun _ => 0)))] := hD
  refine lv_iinc (nL := 3) (k := 0) (x := 7) (v := 8) (lv' := [(2, .int 8), (0, .ref h0), (1, .int k)]) hx hb kd_Row_64 hl rfl (by decide) (by decide) rfl (fun ls hl => ?_)
  have hl : lv_has ls 3 [(2, .int 8), (0, .ref h0), (1, .int k)] := hl
  refine lv_goto (tgt := 45) hx hb kd_Row_67 (by decide) ?_
  refine lv_iload_n hx hb kd_Row_45 rfl (lv_at hl 0 rfl) ?_
  refine lv_bipush (v := 8) hx hb kd_Row_46 (by decide) ?_
  refine lv_icmp_ge (tgt := 70) hx hb kd_Row_48 (by decide) (fun _ => ?_) (fun hf => absurd (by decide) hf)
  subst hAe
  exact W.vret hx hb hr (fun t ht hW => ⟨⟨(fun i => [q7_0, q56_1, (u60_2 0), q56_3, (u60_4 0), q56_5, (u60_6 0), q56_7, (u60_8 0), q56_9, (u60_10 0), q56_11, (u60_12 0), q56_13, (u60_14 0), q56_15, (u60_16 0)].getD i 0), rfl, trivial, by rw [ht]; exact hP, hD⟩, hS.F ht⟩) hS.2.2 kd_Row_70
