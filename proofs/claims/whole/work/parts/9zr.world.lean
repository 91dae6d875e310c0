-- The walk's world is the machine's memory (own work)
theorem k_arrV {c : ClassId} {n : Nat} {f g : Nat → Value} (h : ∀ j, j < n → f j = g j) : arrV c n f = arrV c n g := by
  unfold arrV
  have e : (fun j : Fin n => f j.val) = fun j : Fin n => g j.val := funext fun j => h j.val j.isLt
  rw [e]
theorem k_blk (u9 : Nat → Nat) (ad : Nat → Nat → Nat) (h : ∀ j, ad 10 j = u9 (15 + 2 * j)) (j : Nat) (hj : j < 8) : va_rf (kFb u9 j) = va_rf (some (ad 10 j)) := by
  rw [h]
  match j, hj with
  | 0, _ => rfl
  | 1, _ => rfl
  | 2, _ => rfl
  | 3, _ => rfl
  | 4, _ => rfl
  | 5, _ => rfl
  | 6, _ => rfl
  | 7, _ => rfl
theorem k_Dm {A : Nat → Prop} {l : List (Nat × Nat)} {f : Nat × Nat → Nat} {g g' : Nat × Nat → va_E} (h : va_D A (l.map fun q => (f q, g q))) : va_D A (l.map fun q => (f q, g' q)) := by
  refine ⟨fun i j p q hi hj e => ?_, fun k q hk => ?_⟩
  · rw [List.getElem?_map] at hi hj
    obtain ⟨x, hx, rfl⟩ := Option.map_eq_some_iff.mp hi
    obtain ⟨y, hy, rfl⟩ := Option.map_eq_some_iff.mp hj
    exact h.1 i j (f x, g x) (f y, g y) (by rw [List.getElem?_map, hx]; rfl) (by rw [List.getElem?_map, hy]; rfl) e
  · rw [List.getElem?_map] at hk
    obtain ⟨x, hx, rfl⟩ := Option.map_eq_some_iff.mp hk
    exact h.2 k (f x, g x) (by rw [List.getElem?_map, hx]; rfl)
theorem k_Pm {D : va_G} {cl : List vw_C} {H : Heap} {l : List (Nat × Nat)} {f : Nat × Nat → Nat} {g g' : Nat × Nat → va_E} (hg : ∀ q ∈ l, va_at D cl (f q, g q) H → va_at D cl (f q, g' q) H) (h : va_P D cl (l.map fun q => (f q, g q)) H) : va_P D cl (l.map fun q => (f q, g' q)) H := by
  intro k q hk
  rw [List.getElem?_map] at hk
  obtain ⟨x, hx, rfl⟩ := Option.map_eq_some_iff.mp hk
  exact hg x (List.mem_of_getElem? hx) (h k (f x, g x) (by rw [List.getElem?_map, hx]; rfl))
theorem k_filt {α : Type} : ∀ (l : List Nat) (ws : List α) (ws' : List α), l.map (fun i => ws[i]?) = ws'.map some → l.filterMap (fun i => ws[i]?) = ws'
  | [], _, [], _ => rfl
  | [], _, _ :: _, h => by cases h
  | _ :: _, _, [], h => by cases h
  | a :: r, ws, b :: r', h => by
    simp only [List.map_cons, List.cons.injEq] at h
    rw [List.filterMap_cons_some h.1, k_filt r ws r' h.2]
theorem k_world {D : va_G} {cs : Nat → ClassId} {A : Nat → Prop} {H : Heap} {a : Int} {L : Nat} {xs : Nat → Int32} {b ks vs q0 q13 q27 : Nat} {u22 u9 : Nat → Nat} (hP : va_P D xm_cl (kWd cs (zi a) q0 q13 q27 u22 u9) H) (hD : va_D A (kWd cs (zi a) q0 q13 q27 u22 u9)) :
    va_P D xm_cl (xw cs (kAd b ks vs q0 q13 q27 u22 u9) (z_m (kM0 a L xs))) H ∧ va_D A (xw cs (kAd b ks vs q0 q13 q27 u22 u9) (z_m (kM0 a L xs))) := by
  have hp := k_perm cs a L xs b ks vs q0 q13 q27 u22 u9
  refine ⟨k_Pm (fun q hq h => ?_) (hP.sub kPm (k_filt _ _ _ hp)), k_Dm (hD.sub kPm (by decide) hp)⟩
  unfold kXe at h
  by_cases h9 : q.1 = 9
  · obtain ⟨k, j⟩ := q
    dsimp only at h9
    subst h9
    have e : vp_cell (cs 4) (8, .inr (.inr (.inr (.inr (kFb u9))))) = vp_cell (cs 4) (8, .inr (.inr (.inr (.inr fun i => some (kAd b ks vs q0 q13 q27 u22 u9 10 i))))) := by
      rw [vp_cell_q, vp_cell_q]
      exact k_arrV (fun j hj => k_blk u9 (kAd b ks vs q0 q13 q27 u22 u9) (fun _ => rfl) j hj)
    have h' : H[kAd b ks vs q0 q13 q27 u22 u9 9 j]? = some (vp_cell (cs 4) (8, .inr (.inr (.inr (.inr (kFb u9)))))) := h
    show H[kAd b ks vs q0 q13 q27 u22 u9 9 j]? = some (vp_cell (cs 4) (8, .inr (.inr (.inr (.inr fun i => some (kAd b ks vs q0 q13 q27 u22 u9 10 i))))))
    rw [h', e]
  · have e : Nat.beq q.1 9 = false := by
      cases hb : Nat.beq q.1 9 with
      | false => rfl
      | true => exact absurd (Nat.eq_of_beq_eq_true hb) h9
    rw [e] at h
    exact h
