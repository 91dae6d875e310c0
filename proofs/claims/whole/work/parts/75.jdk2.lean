-- charAt and indexOf of the text XYE (own work)
section XJ
variable {p : Program} {l : Launch} {e : Env} {D : va_G} {cs : Nat → ClassId} {ad : Nat → Nat → Nat} {A : Nat → Prop} {H0 : Heap} {N : Nat} {xs : Nat → Int32}
def xbyt (j : Nat) : Int32 := [88, 89, 69].getD j 0
theorem xjf {s : State} (hG : xGG D cs ad A H0 N xs s) : va_S A s.heap s.heap [] ∧ va_S A H0 s.heap [] ∧ (∀ q ∈ xprs, ad q.1 q.2 < s.heap.size) ∧ va_Z "java/lang/String" "COMPACT_STRINGS" "Z" (.int 1) A s s.heap ∧ (∃ a : Nat, va_Z "jdk/internal/util/Preconditions" "SIOOBE_FORMATTER" "Ljava/util/function/BiFunction;" (.ref a) A s s.heap ∨ va_Z "jdk/internal/util/Preconditions" "SIOOBE_FORMATTER" "Ljava/util/function/BiFunction;" .null A s s.heap) ∧
    va_OF "java/lang/String" "coder" "B" (.int 0) (ad 33 0) A s s.heap ∧ va_OF "java/lang/String" "value" "[B" (.ref (ad 34 0)) (ad 33 0) A s s.heap ∧ va_T .byte (ad 34 0) 3 (fun j => .int (xbyt j)) A s s.heap ∧ (∃ cell : Cell, s.heap[ad 33 0]? = some cell ∧ cell.vm.isStatics = false ∧ s.vm.findClass "java/lang/String" = some cell.cls) := by
  have hk := hG.1.2.2.2.1.2.1
  obtain ⟨-, -, h3, v4, h4, h5⟩ := hG.1.2.2.2.2.2.2.1
  obtain ⟨t1, t2, t3, t4⟩ := hG.1.2.2.2.2.2.2.2.1 0 (by decide)
  obtain ⟨cell, r1, r2, r3, -⟩ := t1.kept hk
  refine ⟨⟨Nat.le_refl _, fun _ _ _ => rfl, fun _ h => by cases h⟩, hG.1.2.2.2.1, hG.1.2.2.2.2.1, h3.kept hk, ?_, t2.kept hk, t3.kept hk, t4.kept hk, cell, r1, r2, r3⟩
  cases v4 with
  | ref a => exact ⟨a, Or.inl (h5.kept hk)⟩
  | null => exact ⟨0, Or.inr (h5.kept hk)⟩
  | _ => cases h4
theorem jc_L (hexec : p.tables.exec = Jvm.exec) : xPm p l e (xGG D cs ad A H0 N xs) jy_L jb_L 1 (some .boolean) 0 0 [.ref (ad 33 0)] (some (.int 1)) := by
  intro R s mk below methk ck hown hb hml hr hlk hG hfr hlo
  obtain ⟨hS0, hSH, hq, hZ, -, hco, hva, hby, hrec⟩ := xjf hG
  rw [lg_entry_eq]
  have hls := lv_entry [Value.ref (ad 33 0)] (n := 1) (by simp [lg_sl, Value.category])
  generalize (lg_sl [Value.ref (ad 33 0)] ++ List.replicate (1 - (lg_sl [Value.ref (ad 33 0)]).length) Slot.unset).toArray = ls at hls ⊢
  refine va_gets hexec hb hZ hS0 hown (va_Nw.use rfl (xm_is_use jf_38 hG.1)) (fun x h => h) jd_L_0 ?_
  refine lv_if_eq hexec hb jd_L_3 (tgt := 17) (by decide) (fun h => absurd h (by decide)) fun _ => ?_
  refine lv_aload_n hexec hb jd_L_6 rfl (lv_at hls 0 rfl) ?_
  refine vk_getf hexec hb hco hS0 hown (va_Nw.use rfl (xm_is_use jf_15 hG.1)) (fun x h => h) jd_L_7 ?_
  refine lv_if_ne hexec hb jd_L_10 (tgt := 17) (by decide) (fun h => absurd rfl h) fun _ => ?_
  refine lv_iconst hexec hb jd_L_13 (v := 1) rfl ?_
  refine lv_goto hexec hb jd_L_14 (tgt := 18) (by decide) ?_
  exact W.wk (W.zret (ty := .boolean) hexec hb hr rfl (fun t h1 h2 => ⟨rfl, h1⟩) (fun q hq => by cases hq) jd_L_18 hlk) (fun t h => xPu.of h)
theorem jc_O (hexec : p.tables.exec = Jvm.exec) : xPm p l e (xGG D cs ad A H0 N xs) jy_O jb_O 1 (some .byte) 0 0 [.ref (ad 33 0)] (some (.int 0)) := by
  intro R s mk below methk ck hown hb hml hr hlk hG hfr hlo
  obtain ⟨hS0, hSH, hq, hZ, -, hco, hva, hby, hrec⟩ := xjf hG
  rw [lg_entry_eq]
  have hls := lv_entry [Value.ref (ad 33 0)] (n := 1) (by simp [lg_sl, Value.category])
  generalize (lg_sl [Value.ref (ad 33 0)] ++ List.replicate (1 - (lg_sl [Value.ref (ad 33 0)]).length) Slot.unset).toArray = ls at hls ⊢
  refine va_gets hexec hb hZ hS0 hown (va_Nw.use rfl (xm_is_use jf_38 hG.1)) (fun x h => h) jd_O_0 ?_
  refine lv_if_eq hexec hb jd_O_3 (tgt := 13) (by decide) (fun h => absurd h (by decide)) fun _ => ?_
  refine lv_aload_n hexec hb jd_O_6 rfl (lv_at hls 0 rfl) ?_
  refine vk_getf hexec hb hco hS0 hown (va_Nw.use rfl (xm_is_use jf_15 hG.1)) (fun x h => h) jd_O_7 ?_
  refine lv_goto hexec hb jd_O_10 (tgt := 14) (by decide) ?_
  exact W.wk (W.zret (ty := .byte) hexec hb hr rfl (fun t h1 h2 => ⟨rfl, h1⟩) (fun q hq => by cases hq) jd_O_14 hlk) (fun t h => xPu.of h)
theorem jc_N (hexec : p.tables.exec = Jvm.exec) : xPm p l e (xGG D cs ad A H0 N xs) jy_N jb_N 1 (some .int) 1 13 [.ref (ad 33 0)] (some (.int 3)) := by
  intro R s mk below methk ck hown hb hml hr hlk hG hfr hlo
  obtain ⟨hS0, hSH, hq, hZ, -, hco, hva, hby, hrec⟩ := xjf hG
  rw [lg_entry_eq]
  have hls := lv_entry [Value.ref (ad 33 0)] (n := 1) (by simp [lg_sl, Value.category])
  generalize (lg_sl [Value.ref (ad 33 0)] ++ List.replicate (1 - (lg_sl [Value.ref (ad 33 0)]).length) Slot.unset).toArray = ls at hls ⊢
  refine lv_aload_n hexec hb jd_N_0 rfl (lv_at hls 0 rfl) ?_
  refine vk_getf hexec hb hva hS0 hown (va_Nw.use rfl (xm_is_use jf_9 hG.1)) (fun x h => h) jd_N_1 ?_
  obtain ⟨bc, b1, b2, b3, b4, b5, b6, b7⟩ := hby
  refine W.alen (n := 3) hexec hb b1 b2 (by rw [b5]; rfl) (g := F0 mk 4 ls [.ref (ad 34 0)]) rfl rfl jd_N_4 ?_
  refine lv_aload_n hexec hb jd_N_5 rfl (lv_at hls 0 rfl) ?_
  refine xpc_v hexec (jc_O hexec) hb (hml.trans hls.1.symm) hown hG (xm_is_use jl_String_335 hG.1) (xm_is_use js_O.1 hG.1) (xm_is_use js_O.2 hG.1) (xm_is_use jw_O hG.1) jp_O (by decide) hrec (by decide +kernel) (by omega) (by show 1 + (1 + 11) + 0 ≤ R.locals; omega) (Nat.zero_le _) (Nat.zero_le _) hSH hq jd_N_6 (rest := [.int 3]) rfl ?_
  refine lv_ishr hexec hb jd_N_9 ?_
  exact W.wk (W.iret hexec hb hr (fun t h1 h2 => ⟨rfl, h1⟩) (fun q hq => by cases hq) jd_N_10 hlk) (fun t h => xPu.of h)
theorem jc_P (hexec : p.tables.exec = Jvm.exec) {i n : Int32} (hi : ¬ i < 0) (hn : i < n) (f : Value) (hf : f.category = 1) : xPm p l e (xGG D cs ad A H0 N xs) jy_P jb_P 3 (some .int) 0 0 [.int i, .int n, f] (some (.int i)) := by
  intro R s mk below methk ck hown hb hml hr hlk hG hfr hlo
  rw [lg_entry_eq]
  have hls := lv_entry [Value.int i, .int n, f] (n := 3) (by cases f <;> first | (cases hf; done) | simp [lg_sl, Value.category])
  generalize (lg_sl [Value.int i, .int n, f] ++ List.replicate (3 - (lg_sl [Value.int i, .int n, f]).length) Slot.unset).toArray = ls at hls ⊢
  refine lv_iload_n hexec hb jd_P_0 rfl (lv_at hls 0 rfl) ?_
  refine lv_if_lt hexec hb jd_P_1 (tgt := 9) (by decide) (fun h => absurd h hi) fun _ => ?_
  refine lv_iload_n hexec hb jd_P_4 rfl (lv_at hls 0 rfl) ?_
  refine lv_iload_n hexec hb jd_P_5 rfl (lv_at hls 1 rfl) ?_
  refine lv_icmp_lt hexec hb jd_P_6 (tgt := 16) (by decide) (fun _ => ?_) fun h => absurd hn h
  refine lv_iload_n hexec hb jd_P_16 rfl (lv_at hls 0 rfl) ?_
  exact W.wk (W.iret hexec hb hr (fun t h1 h2 => ⟨rfl, h1⟩) (fun q hq => by cases hq) jd_P_17 hlk) (fun t h => xPu.of h)
theorem jc_K (hexec : p.tables.exec = Jvm.exec) {i n : Int32} (hi : ¬ i < 0) (hn : i < n) : xPm p l e (xGG D cs ad A H0 N xs) jy_K jb_K 2 none 1 14 [.int i, .int n] none := by
  intro R s mk below methk ck hown hb hml hr hlk hG hfr hlo
  obtain ⟨hS0, hSH, hq, hZ, ⟨fa, hF⟩, hco, hva, hby, hrec⟩ := xjf hG
  rw [lg_entry_eq]
  have hls := lv_entry [Value.int i, .int n] (n := 2) (by simp [lg_sl, Value.category])
  generalize (lg_sl [Value.int i, .int n] ++ List.replicate (2 - (lg_sl [Value.int i, .int n]).length) Slot.unset).toArray = ls at hls ⊢
  refine lv_iload_n hexec hb jd_K_0 rfl (lv_at hls 0 rfl) ?_
  refine lv_iload_n hexec hb jd_K_1 rfl (lv_at hls 1 rfl) ?_
  have tail : ∀ f : Value, f.category = 1 → W p l e R s mk [Value.int i, .int n].toArray below methk ck s.heap [] 0 0 (xPu none s below) (F0 mk 5 ls [f, .int n, .int i]) := by
    intro f hf
    refine xpc_s hexec (jc_P hexec hi hn f hf) hb (hml.trans hls.1.symm) hown hG (xm_is_use jl_String_1059 hG.1) (xm_is_use js_P hG.1) (xm_is_use ji_Preconditions hG.1) (xm_is_use jw_P hG.1) jp_P (by decide) (show (parseMethodDescriptor jy_P.desc).map (fun d => d.parameters.length) = some 3 by decide +kernel) (by omega) (by show 0 + (3 + 11) + 0 ≤ R.locals; omega) (Nat.zero_le _) (Nat.zero_le _) hSH hq jd_K_5 (rest := []) rfl ?_
    refine lv_pop hexec hb jd_K_8 rfl ?_
    exact W.wk (W.vret hexec hb hr (fun t h1 h2 => ⟨rfl, h1⟩) (fun q hq => by cases hq) jd_K_9 hlk) (fun t h => xPu.of h)
  rcases hF with hF | hF
  · exact va_gets hexec hb hF hS0 hown (va_Nw.use rfl (xm_is_use jf_1053 hG.1)) (fun x h => h) jd_K_2 (tail _ rfl)
  · exact va_gets hexec hb hF hS0 hown (va_Nw.use rfl (xm_is_use jf_1053 hG.1)) (fun x h => h) jd_K_2 (tail _ rfl)
theorem xin3 {i : Int32} (h : xm_in i 3 = true) : i = 0 ∨ i = 1 ∨ i = 2 := by
  have h1 := xm_in_spec h
  have h2 : ¬ i < 0 := fun q => h1 (Or.inl q)
  have h3 : i.toNatClampNeg < 3 := Nat.not_le.mp fun q => h1 (Or.inr q)
  have h4 : (0 : Int) ≤ i.toInt := by simpa using Int32.le_iff_toInt_le.mp (Int32.not_lt.mp h2)
  have h5 : i.toInt.toNat < 3 := h3
  rcases (by omega : i.toInt = 0 ∨ i.toInt = 1 ∨ i.toInt = 2) with h | h | h
  · exact Or.inl (Int32.toInt_inj.mp h)
  · exact Or.inr (Or.inl (Int32.toInt_inj.mp h))
  · exact Or.inr (Or.inr (Int32.toInt_inj.mp h))
theorem jc_B (hexec : p.tables.exec = Jvm.exec) {i : Int32} (hi : xm_in i 3 = true) : xPm p l e (xGG D cs ad A H0 N xs) jy_B jb_B 2 (some .char) 2 27 [.ref (ad 34 0), .int i] (some (.int (xm_chr i))) := by
  intro R s mk below methk ck hown hb hml hr hlk hG hfr hlo
  obtain ⟨hS0, hSH, hq, hZ, -, hco, hva, hby, hrec⟩ := xjf hG
  rw [lg_entry_eq]
  have hls := lv_entry [Value.ref (ad 34 0), .int i] (n := 2) (by simp [lg_sl, Value.category])
  generalize (lg_sl [Value.ref (ad 34 0), .int i] ++ List.replicate (2 - (lg_sl [Value.ref (ad 34 0), .int i]).length) Slot.unset).toArray = ls at hls ⊢
  refine lv_iload_n hexec hb jd_B_0 rfl (lv_at hls 1 rfl) ?_
  refine lv_aload_n hexec hb jd_B_1 rfl (lv_at hls 0 rfl) ?_
  have hby' := hby
  obtain ⟨bc, b1, b2, b3, b4, b5, b6, b7⟩ := hby'
  refine W.alen (n := 3) hexec hb b1 b2 (by rw [b5]; rfl) (g := F0 mk 2 ls [.ref (ad 34 0), .int i]) rfl rfl jd_B_2 ?_
  have hi3 := xin3 hi
  refine xpc_s hexec (jc_K hexec (i := i) (n := 3) (by rcases hi3 with rfl | rfl | rfl <;> decide) (by rcases hi3 with rfl | rfl | rfl <;> decide)) hb (hml.trans hls.1.symm) hown hG (xm_is_use jl_StringLatin1_9 hG.1) (xm_is_use js_K hG.1) (xm_is_use ji_String hG.1) (xm_is_use jw_K hG.1) jp_K (by decide) (show (parseMethodDescriptor jy_K.desc).map (fun d => d.parameters.length) = some 2 by decide +kernel) (by omega) (by show 0 + (2 + 11) + 14 ≤ R.locals; omega) (Nat.zero_le _) (Nat.zero_le _) hSH hq jd_B_3 (rest := []) rfl ?_
  refine lv_aload_n hexec hb jd_B_6 rfl (lv_at hls 0 rfl) ?_
  refine lv_iload_n hexec hb jd_B_7 rfl (lv_at hls 1 rfl) ?_
  refine va_tb hexec hb hby hS0 (xm_in_spec hi) rfl jd_B_8 ?_
  refine lv_sipush hexec hb jd_B_9 (v := 255) rfl ?_
  refine lv_iand hexec hb jd_B_12 ?_
  refine lv_i2c hexec hb jd_B_13 (v := xm_chr i) (by rcases hi3 with rfl | rfl | rfl <;> decide) ?_
  exact W.wk (W.zret (ty := .char) hexec hb hr (by rcases hi3 with rfl | rfl | rfl <;> decide) (fun t h1 h2 => ⟨rfl, h1⟩) (fun q hq => by cases hq) jd_B_14 hlk) (fun t h => xPu.of h)
theorem jc_C (hexec : p.tables.exec = Jvm.exec) {i : Int32} (hi : xm_in i 3 = true) : xPm p l e (xGG D cs ad A H0 N xs) jy_C jb_C 2 (some .char) 3 40 [.ref (ad 33 0), .int i] (some (.int (xm_chr i))) := by
  intro R s mk below methk ck hown hb hml hr hlk hG hfr hlo
  obtain ⟨hS0, hSH, hq, hZ, -, hco, hva, hby, hrec⟩ := xjf hG
  rw [lg_entry_eq]
  have hls := lv_entry [Value.ref (ad 33 0), .int i] (n := 2) (by simp [lg_sl, Value.category])
  generalize (lg_sl [Value.ref (ad 33 0), .int i] ++ List.replicate (2 - (lg_sl [Value.ref (ad 33 0), .int i]).length) Slot.unset).toArray = ls at hls ⊢
  refine lv_aload_n hexec hb jd_C_0 rfl (lv_at hls 0 rfl) ?_
  refine xpc_v hexec (jc_L hexec) hb (hml.trans hls.1.symm) hown hG (xm_is_use jl_String_492 hG.1) (xm_is_use js_L.1 hG.1) (xm_is_use js_L.2 hG.1) (xm_is_use jw_L hG.1) jp_L (by decide) hrec (by decide +kernel) (by omega) (by show 0 + (1 + 11) + 0 ≤ R.locals; omega) (Nat.zero_le _) (Nat.zero_le _) hSH hq jd_C_1 (rest := []) rfl ?_
  refine lv_if_eq hexec hb jd_C_4 (tgt := 16) (by decide) (fun h => absurd h (by decide)) fun _ => ?_
  refine lv_aload_n hexec hb jd_C_7 rfl (lv_at hls 0 rfl) ?_
  refine vk_getf hexec hb hva hS0 hown (va_Nw.use rfl (xm_is_use jf_9 hG.1)) (fun x h => h) jd_C_8 ?_
  refine lv_iload_n hexec hb jd_C_11 rfl (lv_at hls 1 rfl) ?_
  refine xpc_s hexec (jc_B hexec hi) hb (hml.trans hls.1.symm) hown hG (xm_is_use jl_String_495 hG.1) (xm_is_use js_B hG.1) (xm_is_use ji_StringLatin1 hG.1) (xm_is_use jw_B hG.1) jp_B (by decide) (show (parseMethodDescriptor jy_B.desc).map (fun d => d.parameters.length) = some 2 by decide +kernel) (by omega) (by show 0 + (2 + 11) + 27 ≤ R.locals; omega) (Nat.zero_le _) (Nat.zero_le _) hSH hq jd_C_12 (rest := []) rfl ?_
  have hi3 := xin3 hi
  exact W.wk (W.zret (ty := .char) hexec hb hr (by rcases hi3 with rfl | rfl | rfl <;> decide) (fun t h1 h2 => ⟨rfl, h1⟩) (fun q hq => by cases hq) jd_C_15 hlk) (fun t h => xPu.of h)
theorem jc_E (hexec : p.tables.exec = Jvm.exec) (i : Int32) : xPm p l e (xGG D cs ad A H0 N xs) jy_E jb_E 1 (some .boolean) 0 0 [.int i] (some (.int (if i < 0 ∨ 255 < i then 0 else 1))) := by
  intro R s mk below methk ck hown hb hml hr hlk hG hfr hlo
  rw [lg_entry_eq]
  have hls := lv_entry [Value.int i] (n := 1) (by simp [lg_sl, Value.category])
  generalize (lg_sl [Value.int i] ++ List.replicate (1 - (lg_sl [Value.int i]).length) Slot.unset).toArray = ls at hls ⊢
  have no : (i < 0 ∨ 255 < i) → W p l e R s mk [Value.int i].toArray below methk ck s.heap [] 0 0 (xPu (some (.int (if i < 0 ∨ 255 < i then 0 else 1))) s below) (F0 mk 15 ls []) := by
    intro h
    rw [if_pos h]
    refine lv_iconst hexec hb jd_E_15 (v := 0) rfl ?_
    exact W.wk (W.zret (ty := .boolean) hexec hb hr rfl (fun t h1 h2 => ⟨rfl, h1⟩) (fun q hq => by cases hq) jd_E_16 hlk) (fun t h => xPu.of h)
  refine lv_iload_n hexec hb jd_E_0 rfl (lv_at hls 0 rfl) ?_
  refine lv_if_lt hexec hb jd_E_1 (tgt := 15) (by decide) (fun h => no (Or.inl h)) fun h1 => ?_
  refine lv_iload_n hexec hb jd_E_4 rfl (lv_at hls 0 rfl) ?_
  refine lv_sipush hexec hb jd_E_5 (v := 255) rfl ?_
  refine lv_icmp_gt hexec hb jd_E_8 (tgt := 15) (by decide) (fun h => no (Or.inr h)) fun h2 => ?_
  refine lv_iconst hexec hb jd_E_11 (v := 1) rfl ?_
  refine lv_goto hexec hb jd_E_12 (tgt := 16) (by decide) ?_
  rw [if_neg (fun q => q.elim h1 h2)]
  exact W.wk (W.zret (ty := .boolean) hexec hb hr rfl (fun t h1 h2 => ⟨rfl, h1⟩) (fun q hq => by cases hq) jd_E_16 hlk) (fun t h => xPu.of h)
theorem jc_U (hexec : p.tables.exec = Jvm.exec) (x y : Int32) : xPm p l e (xGG D cs ad A H0 N xs) jy_U jb_U 2 (some .int) 0 0 [.int x, .int y] (some (.int (if x < y then y else x))) := by
  intro R s mk below methk ck hown hb hml hr hlk hG hfr hlo
  rw [lg_entry_eq]
  have hls := lv_entry [Value.int x, .int y] (n := 2) (by simp [lg_sl, Value.category])
  generalize (lg_sl [Value.int x, .int y] ++ List.replicate (2 - (lg_sl [Value.int x, .int y]).length) Slot.unset).toArray = ls at hls ⊢
  refine lv_iload_n hexec hb jd_U_0 rfl (lv_at hls 0 rfl) ?_
  refine lv_iload_n hexec hb jd_U_1 rfl (lv_at hls 1 rfl) ?_
  refine lv_icmp_lt hexec hb jd_U_2 (tgt := 9) (by decide) (fun h => ?_) fun h => ?_
  · refine lv_iload_n hexec hb jd_U_9 rfl (lv_at hls 1 rfl) ?_
    rw [if_pos h]
    exact W.wk (W.iret hexec hb hr (fun t h1 h2 => ⟨rfl, h1⟩) (fun q hq => by cases hq) jd_U_10 hlk) (fun t h => xPu.of h)
  · refine lv_iload_n hexec hb jd_U_5 rfl (lv_at hls 0 rfl) ?_
    refine lv_goto hexec hb jd_U_6 (tgt := 10) (by decide) ?_
    rw [if_neg h]
    exact W.wk (W.iret hexec hb hr (fun t h1 h2 => ⟨rfl, h1⟩) (fun q hq => by cases hq) jd_U_10 hlk) (fun t h => xPu.of h)
theorem jc_V (hexec : p.tables.exec = Jvm.exec) (x y : Int32) : xPm p l e (xGG D cs ad A H0 N xs) jy_V jb_V 2 (some .int) 0 0 [.int x, .int y] (some (.int (if y < x then y else x))) := by
  intro R s mk below methk ck hown hb hml hr hlk hG hfr hlo
  rw [lg_entry_eq]
  have hls := lv_entry [Value.int x, .int y] (n := 2) (by simp [lg_sl, Value.category])
  generalize (lg_sl [Value.int x, .int y] ++ List.replicate (2 - (lg_sl [Value.int x, .int y]).length) Slot.unset).toArray = ls at hls ⊢
  refine lv_iload_n hexec hb jd_V_0 rfl (lv_at hls 0 rfl) ?_
  refine lv_iload_n hexec hb jd_V_1 rfl (lv_at hls 1 rfl) ?_
  refine lv_icmp_gt hexec hb jd_V_2 (tgt := 9) (by decide) (fun h => ?_) fun h => ?_
  · refine lv_iload_n hexec hb jd_V_9 rfl (lv_at hls 1 rfl) ?_
    rw [if_pos h]
    exact W.wk (W.iret hexec hb hr (fun t h1 h2 => ⟨rfl, h1⟩) (fun q hq => by cases hq) jd_V_10 hlk) (fun t h => xPu.of h)
  · refine lv_iload_n hexec hb jd_V_5 rfl (lv_at hls 0 rfl) ?_
    refine lv_goto hexec hb jd_V_6 (tgt := 10) (by decide) ?_
    rw [if_neg h]
    exact W.wk (W.iret hexec hb hr (fun t h1 h2 => ⟨rfl, h1⟩) (fun q hq => by cases hq) jd_V_10 hlk) (fun t h => xPu.of h)
-- the search: three places
theorem jc_H (hexec : p.tables.exec = Jvm.exec) (i : Int32) (hi : ¬ (i < 0 ∨ 255 < i)) : xPm p l e (xGG D cs ad A H0 N xs) jy_H jb_H 6 (some .int) 0 0 [.ref (ad 34 0), .int i, .int 0, .int 3] (some (.int (xm_idx i))) := by
  intro R s mk below methk ck hown hb hml hr hlk hG hfr hlo
  obtain ⟨hS0, hSH, hq, hZ, -, hco, hva, hby, hrec⟩ := xjf hG
  rw [lg_entry_eq]
  have hls := lv_entry [Value.ref (ad 34 0), .int i, .int 0, .int 3] (n := 6) (by simp [lg_sl, Value.category])
  generalize (lg_sl [Value.ref (ad 34 0), .int i, .int 0, .int 3] ++ List.replicate (6 - (lg_sl [Value.ref (ad 34 0), .int i, .int 0, .int 3]).length) Slot.unset).toArray = ls at hls ⊢
  have hi1 : (0 : Int) ≤ i.toInt := by simpa using Int32.le_iff_toInt_le.mp (Int32.not_lt.mp fun q => hi (Or.inl q))
  have hi2 : i.toInt ≤ 255 := by simpa using Int32.le_iff_toInt_le.mp (Int32.not_lt.mp fun q => hi (Or.inr q))
  have heq : ∀ n : Int32, 0 ≤ n.toInt → n.toInt < 128 → (n = i.toInt8.toInt32 ↔ i = n) := by
    intro n h1 h2
    have h3 : i.toInt8.toInt32.toInt = i.toInt.bmod (2 ^ 8) := by simp
    constructor
    · intro h
      apply Int32.toInt_inj.mp
      have h4 := congrArg Int32.toInt h
      rw [h3] at h4
      rw [Int.bmod_def] at h4
      split at h4 <;> omega
    · intro h
      subst h
      apply Int32.toInt_inj.mp
      rw [h3, Int.bmod_def]
      split <;> omega
  have ret : ∀ (r : Int32) (ls' : Array Slot), xm_idx i = r → W p l e R s mk [Value.ref (ad 34 0), .int i, .int 0, .int 3].toArray below methk ck s.heap [] 0 0 (xPu (some (.int (xm_idx i))) s below) (F0 mk 24 ls' [.int r]) := by
    intro r ls' h
    rw [h]
    exact W.wk (W.iret hexec hb hr (fun t h1 h2 => ⟨rfl, h1⟩) (fun q hq => by cases hq) jd_H_24 hlk) (fun t h => xPu.of h)
  refine lv_iload_n hexec hb jd_H_0 rfl (lv_at hls 1 rfl) ?_
  refine lv_i2b hexec hb jd_H_1 rfl ?_
  refine lv_istore hexec hb jd_H_2 hls (by decide) rfl fun ls1 hl1 => ?_
  refine lv_iload_n hexec hb jd_H_4 rfl (lv_at hl1 3 rfl) ?_
  refine lv_istore hexec hb jd_H_5 hl1 (by decide) rfl fun ls2 hl2 => ?_
  have body : ∀ (j : Int32) (ls3 : Array Slot), lv_has ls3 6 [(5, .int j), (4, .int i.toInt8.toInt32), (0, .ref (ad 34 0)), (1, .int i), (2, .int 0), (3, .int 3)] → xm_in j 3 = true → (i = xbyt j.toNatClampNeg → xm_idx i = j) →
      (¬ i = xbyt j.toNatClampNeg → ∀ ls4, lv_has ls4 6 [(5, .int (j + 1)), (4, .int i.toInt8.toInt32), (0, .ref (ad 34 0)), (1, .int i), (2, .int 0), (3, .int 3)] → W p l e R s mk [Value.ref (ad 34 0), .int i, .int 0, .int 3].toArray below methk ck s.heap [] 0 0 (xPu (some (.int (xm_idx i))) s below) (F0 mk 7 ls4 [])) →
      W p l e R s mk [Value.ref (ad 34 0), .int i, .int 0, .int 3].toArray below methk ck s.heap [] 0 0 (xPu (some (.int (xm_idx i))) s below) (F0 mk 7 ls3 []) := by
    intro j ls3 hl3 hj h1 h2
    have hj3 := xin3 hj
    refine lv_iload hexec hb jd_H_7 (lv_at hl3 0 rfl) ?_
    refine lv_iload_n hexec hb jd_H_9 rfl (lv_at hl3 5 rfl) ?_
    refine lv_icmp_ge hexec hb jd_H_10 (tgt := 31) (by decide) (fun h => absurd h (by rcases hj3 with rfl | rfl | rfl <;> decide)) fun _ => ?_
    refine lv_aload_n hexec hb jd_H_13 rfl (lv_at hl3 2 rfl) ?_
    refine lv_iload hexec hb jd_H_14 (lv_at hl3 0 rfl) ?_
    refine va_tb hexec hb hby hS0 (xm_in_spec hj) rfl jd_H_16 ?_
    refine lv_iload hexec hb jd_H_17 (lv_at hl3 1 rfl) ?_
    have hb1 : 0 ≤ (xbyt j.toNatClampNeg).toInt ∧ (xbyt j.toNatClampNeg).toInt < 128 := by rcases hj3 with rfl | rfl | rfl <;> decide
    refine lv_icmp_ne hexec hb jd_H_19 (tgt := 25) (by decide) (fun h => ?_) fun h => ?_
    · refine lv_iinc hexec hb jd_H_25 hl3 (k := 0) rfl rfl (by decide) rfl fun ls4 hl4 => ?_
      refine lv_goto hexec hb jd_H_28 (tgt := 7) (by decide) ?_
      exact h2 (fun q => h ((heq _ hb1.1 hb1.2).mpr q)) ls4 hl4
    · refine lv_iload hexec hb jd_H_22 (lv_at hl3 0 rfl) ?_
      exact ret j ls3 (h1 ((heq _ hb1.1 hb1.2).mp h))
  refine body 0 ls2 hl2 rfl (fun h => by subst h; rfl) fun n0 ls4 hl4 => ?_
  refine body 1 ls4 hl4 rfl (fun h => by subst h; rfl) fun n1 ls5 hl5 => ?_
  refine body 2 ls5 hl5 rfl (fun h => by subst h; rfl) fun n2 ls6 hl6 => ?_
  refine lv_iload hexec hb jd_H_7 (lv_at hl6 0 rfl) ?_
  refine lv_iload_n hexec hb jd_H_9 rfl (lv_at hl6 5 rfl) ?_
  refine lv_icmp_ge hexec hb jd_H_10 (tgt := 31) (by decide) (fun _ => ?_) fun h => absurd (by decide) h
  refine lv_iconst hexec hb jd_H_31 (v := -1) rfl ?_
  have hfin : xm_idx i = -1 := by
    unfold xm_idx
    rw [if_neg (show ¬ i = 88 from n0), if_neg (show ¬ i = 89 from n1), if_neg (show ¬ i = 69 from n2)]
  rw [hfin]
  exact W.wk (W.iret hexec hb hr (fun t h1 h2 => ⟨rfl, h1⟩) (fun q hq => by cases hq) jd_H_32 hlk) (fun t h => xPu.of h)
theorem jc_X (hexec : p.tables.exec = Jvm.exec) (i : Int32) : xPm p l e (xGG D cs ad A H0 N xs) jy_X jb_X 4 (some .int) 1 17 [.ref (ad 34 0), .int i, .int 0, .int 3] (some (.int (xm_idx i))) := by
  intro R s mk below methk ck hown hb hml hr hlk hG hfr hlo
  obtain ⟨hS0, hSH, hq, hZ, -, hco, hva, hby, hrec⟩ := xjf hG
  rw [lg_entry_eq]
  have hls := lv_entry [Value.ref (ad 34 0), .int i, .int 0, .int 3] (n := 4) (by simp [lg_sl, Value.category])
  generalize (lg_sl [Value.ref (ad 34 0), .int i, .int 0, .int 3] ++ List.replicate (4 - (lg_sl [Value.ref (ad 34 0), .int i, .int 0, .int 3]).length) Slot.unset).toArray = ls at hls ⊢
  refine lv_iload_n hexec hb jd_X_0 rfl (lv_at hls 1 rfl) ?_
  refine xpc_s hexec (jc_E hexec i) hb (hml.trans hls.1.symm) hown hG (xm_is_use jl_StringLatin1_88 hG.1) (xm_is_use js_E hG.1) (xm_is_use ji_StringLatin1 hG.1) (xm_is_use jw_E hG.1) jp_E (by decide) (show (parseMethodDescriptor jy_E.desc).map (fun d => d.parameters.length) = some 1 by decide +kernel) (by omega) (by show 0 + (1 + 11) + 0 ≤ R.locals; omega) (Nat.zero_le _) (Nat.zero_le _) hSH hq jd_X_1 (rest := []) rfl ?_
  by_cases hi : i < 0 ∨ 255 < i
  · rw [if_pos hi]
    refine lv_if_ne hexec hb jd_X_4 (tgt := 9) (by decide) (fun h => absurd rfl h) fun _ => ?_
    refine lv_iconst hexec hb jd_X_7 (v := -1) rfl ?_
    have hfin : xm_idx i = -1 := by
      unfold xm_idx
      rw [if_neg (fun h => by subst h; exact absurd hi (by decide)), if_neg (fun h => by subst h; exact absurd hi (by decide)), if_neg (fun h => by subst h; exact absurd hi (by decide))]
    rw [hfin]
    exact W.wk (W.iret hexec hb hr (fun t h1 h2 => ⟨rfl, h1⟩) (fun q hq => by cases hq) jd_X_8 hlk) (fun t h => xPu.of h)
  · rw [if_neg hi]
    refine lv_if_ne hexec hb jd_X_4 (tgt := 9) (by decide) (fun _ => ?_) fun h => absurd h (by decide)
    refine lv_iload_n hexec hb jd_X_9 rfl (lv_at hls 2 rfl) ?_
    refine lv_iconst hexec hb jd_X_10 (v := 0) rfl ?_
    refine xpc_s hexec (jc_U hexec 0 0) hb (hml.trans hls.1.symm) hown hG (xm_is_use jl_StringLatin1_92 hG.1) (xm_is_use js_U hG.1) (xm_is_use ji_Math hG.1) (xm_is_use jw_U hG.1) jp_U (by decide) (by decide +kernel) (by omega) (by show 0 + (2 + 11) + 0 ≤ R.locals; omega) (Nat.zero_le _) (Nat.zero_le _) hSH hq jd_X_11 (rest := []) rfl ?_
    refine lv_istore_n hexec hb jd_X_14 rfl hls (by decide) rfl fun ls1 hl1 => ?_
    refine lv_iload_n hexec hb jd_X_15 rfl (lv_at hl1 3 rfl) ?_
    refine lv_aload_n hexec hb jd_X_16 rfl (lv_at hl1 1 rfl) ?_
    have hby' := hby
    obtain ⟨bc, b1, b2, b3, b4, b5, b6, b7⟩ := hby'
    refine W.alen (n := 3) hexec hb b1 b2 (by rw [b5]; rfl) (g := F0 mk 17 ls1 [.ref (ad 34 0), .int 3]) rfl rfl jd_X_17 ?_
    refine xpc_s hexec (jc_V hexec 3 3) hb (hml.trans hl1.1.symm) hown hG (xm_is_use jl_StringLatin1_38 hG.1) (xm_is_use js_V hG.1) (xm_is_use ji_Math hG.1) (xm_is_use jw_V hG.1) jp_V (by decide) (by decide +kernel) (by omega) (by show 0 + (2 + 11) + 0 ≤ R.locals; omega) (Nat.zero_le _) (Nat.zero_le _) hSH hq jd_X_18 (rest := []) rfl ?_
    refine lv_istore_n hexec hb jd_X_21 rfl hl1 (by decide) rfl fun ls2 hl2 => ?_
    refine lv_iload_n hexec hb jd_X_22 rfl (lv_at hl2 1 rfl) ?_
    refine lv_iload_n hexec hb jd_X_23 rfl (lv_at hl2 0 rfl) ?_
    refine lv_icmp_lt hexec hb jd_X_24 (tgt := 29) (by decide) (fun _ => ?_) fun h => absurd (by decide) h
    refine lv_aload_n hexec hb jd_X_29 rfl (lv_at hl2 2 rfl) ?_
    refine lv_iload_n hexec hb jd_X_30 rfl (lv_at hl2 3 rfl) ?_
    refine lv_iload_n hexec hb jd_X_31 rfl (lv_at hl2 1 rfl) ?_
    refine lv_iload_n hexec hb jd_X_32 rfl (lv_at hl2 0 rfl) ?_
    refine xpc_s hexec (jc_H hexec i hi) hb (hml.trans hl2.1.symm) hown hG (xm_is_use jl_StringLatin1_95 hG.1) (xm_is_use js_H hG.1) (xm_is_use ji_StringLatin1 hG.1) (xm_is_use jw_H hG.1) jp_H (by decide) (show (parseMethodDescriptor jy_H.desc).map (fun d => d.parameters.length) = some 4 by decide +kernel) (by omega) (by show 0 + (6 + 11) + 0 ≤ R.locals; omega) (Nat.zero_le _) (Nat.zero_le _) hSH hq jd_X_33 (rest := []) rfl ?_
    exact W.wk (W.iret hexec hb hr (fun t h1 h2 => ⟨rfl, h1⟩) (fun q hq => by cases hq) jd_X_36 hlk) (fun t h => xPu.of h)
theorem jc_J (hexec : p.tables.exec = Jvm.exec) (i : Int32) : xPm p l e (xGG D cs ad A H0 N xs) jy_J jb_J 3 (some .int) 2 32 [.ref (ad 33 0), .int i, .int 0] (some (.int (xm_idx i))) := by
  intro R s mk below methk ck hown hb hml hr hlk hG hfr hlo
  obtain ⟨hS0, hSH, hq, hZ, -, hco, hva, hby, hrec⟩ := xjf hG
  rw [lg_entry_eq]
  have hls := lv_entry [Value.ref (ad 33 0), .int i, .int 0] (n := 3) (by simp [lg_sl, Value.category])
  generalize (lg_sl [Value.ref (ad 33 0), .int i, .int 0] ++ List.replicate (3 - (lg_sl [Value.ref (ad 33 0), .int i, .int 0]).length) Slot.unset).toArray = ls at hls ⊢
  refine lv_aload_n hexec hb jd_J_0 rfl (lv_at hls 0 rfl) ?_
  refine xpc_v hexec (jc_L hexec) hb (hml.trans hls.1.symm) hown hG (xm_is_use jl_String_492 hG.1) (xm_is_use js_L.1 hG.1) (xm_is_use js_L.2 hG.1) (xm_is_use jw_L hG.1) jp_L (by decide) hrec (by decide +kernel) (by omega) (by show 0 + (1 + 11) + 0 ≤ R.locals; omega) (Nat.zero_le _) (Nat.zero_le _) hSH hq jd_J_1 (rest := []) rfl ?_
  refine lv_if_eq hexec hb jd_J_4 (tgt := 23) (by decide) (fun h => absurd h (by decide)) fun _ => ?_
  refine lv_aload_n hexec hb jd_J_7 rfl (lv_at hls 0 rfl) ?_
  refine vk_getf hexec hb hva hS0 hown (va_Nw.use rfl (xm_is_use jf_9 hG.1)) (fun x h => h) jd_J_8 ?_
  refine lv_iload_n hexec hb jd_J_11 rfl (lv_at hls 1 rfl) ?_
  refine lv_iload_n hexec hb jd_J_12 rfl (lv_at hls 2 rfl) ?_
  refine lv_aload_n hexec hb jd_J_13 rfl (lv_at hls 0 rfl) ?_
  refine xpc_v hexec (jc_N hexec) hb (hml.trans hls.1.symm) hown hG (xm_is_use jl_String_505 hG.1) (xm_is_use js_N.1 hG.1) (xm_is_use js_N.2 hG.1) (xm_is_use jw_N hG.1) jp_N (by decide) hrec (by decide +kernel) (by omega) (by show 3 + (1 + 11) + 13 ≤ R.locals; omega) (Nat.zero_le _) (Nat.zero_le _) hSH hq jd_J_14 (rest := [.int 0, .int i, .ref (ad 34 0)]) rfl ?_
  refine xpc_s hexec (jc_X hexec i) hb (hml.trans hls.1.symm) hown hG (xm_is_use jl_String_637 hG.1) (xm_is_use js_X hG.1) (xm_is_use ji_StringLatin1 hG.1) (xm_is_use jw_X hG.1) jp_X (by decide) (show (parseMethodDescriptor jy_X.desc).map (fun d => d.parameters.length) = some 4 by decide +kernel) (by omega) (by show 0 + (4 + 11) + 17 ≤ R.locals; omega) (Nat.zero_le _) (Nat.zero_le _) hSH hq jd_J_17 (rest := []) rfl ?_
  refine lv_goto hexec hb jd_J_20 (tgt := 36) (by decide) ?_
  exact W.wk (W.iret hexec hb hr (fun t h1 h2 => ⟨rfl, h1⟩) (fun q hq => by cases hq) jd_J_36 hlk) (fun t h => xPu.of h)
theorem jc_I (hexec : p.tables.exec = Jvm.exec) (i : Int32) : xPm p l e (xGG D cs ad A H0 N xs) jy_I jb_I 2 (some .int) 3 46 [.ref (ad 33 0), .int i] (some (.int (xm_idx i))) := by
  intro R s mk below methk ck hown hb hml hr hlk hG hfr hlo
  obtain ⟨hS0, hSH, hq, hZ, -, hco, hva, hby, hrec⟩ := xjf hG
  rw [lg_entry_eq]
  have hls := lv_entry [Value.ref (ad 33 0), .int i] (n := 2) (by simp [lg_sl, Value.category])
  generalize (lg_sl [Value.ref (ad 33 0), .int i] ++ List.replicate (2 - (lg_sl [Value.ref (ad 33 0), .int i]).length) Slot.unset).toArray = ls at hls ⊢
  refine lv_aload_n hexec hb jd_I_0 rfl (lv_at hls 0 rfl) ?_
  refine lv_iload_n hexec hb jd_I_1 rfl (lv_at hls 1 rfl) ?_
  refine lv_iconst hexec hb jd_I_2 (v := 0) rfl ?_
  refine xpc_v hexec (jc_J hexec i) hb (hml.trans hls.1.symm) hown hG (xm_is_use jl_String_633 hG.1) (xm_is_use js_J.1 hG.1) (xm_is_use js_J.2 hG.1) (xm_is_use jw_J hG.1) jp_J (by decide) hrec (show (parseMethodDescriptor jy_J.desc).map (fun d => d.parameters.length) = some 2 by decide +kernel) (by omega) (by show 0 + (3 + 11) + 32 ≤ R.locals; omega) (Nat.zero_le _) (Nat.zero_le _) hSH hq jd_I_3 (rest := []) rfl ?_
  exact W.wk (W.iret hexec hb hr (fun t h1 h2 => ⟨rfl, h1⟩) (fun q hq => by cases hq) jd_I_6 hlk) (fun t h => xPu.of h)
end XJ
