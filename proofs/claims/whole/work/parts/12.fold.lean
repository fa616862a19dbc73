/-! heaviest and grown: the same fold on both sides; leaked; holders -/
section
variable {P T K G F R A L : Nat → Int32} {w : Nat}
noncomputable def hp_own (G F R : Nat → Int32) (w o : Nat) : Int32 := hp_sum G w (hp_lost F w (hp_rts R w) (hp_o o)) 24
noncomputable def hp_hv (G F R : Nat → Int32) (w : Nat) : Nat → Int32 × Int32
  | 0 => (-3, 0)
  | n + 1 => if bt (hp_clo F w (hp_rts R w) 0) n = true ∧ ¬ hp_own G F R w n ≤ (hp_hv G F R w n).2 then (nI n, hp_own G F R w n) else hp_hv G F R w n
theorem hp_hv_t {n : Nat} (h : bt (hp_clo F w (hp_rts R w) 0) n = true ∧ ¬ hp_own G F R w n ≤ (hp_hv G F R w n).2) : hp_hv G F R w (n + 1) = (nI n, hp_own G F R w n) := if_pos h
theorem hp_hv_f {n : Nat} (h : ¬ (bt (hp_clo F w (hp_rts R w) 0) n = true ∧ ¬ hp_own G F R w n ≤ (hp_hv G F R w n).2)) : hp_hv G F R w (n + 1) = hp_hv G F R w n := if_neg h
theorem hp_hv_0 : ∀ n, 0 ≤ (hp_hv G F R w n).2
  | 0 => by show (0 : Int32) ≤ 0; decide
  | n + 1 => by
    have ih := hp_hv_0 n
    by_cases h : bt (hp_clo F w (hp_rts R w) 0) n = true ∧ ¬ hp_own G F R w n ≤ (hp_hv G F R w n).2
    · rw [hp_hv_t h]
      have := h.2
      rw [Int32.le_iff_toInt_le] at this ih ⊢
      show (0 : Int32).toInt ≤ (hp_own G F R w n).toInt
      omega
    · rw [hp_hv_f h]; exact ih
theorem i_vc_heaviest {k : Nat} {u : SX} {v : SY} (I : i_Rel k u v) (hk : k + 4 ≤ 2048) (v1 : Int32) : wpX_heaviest (fun r => wpY_heaviest (fun r' => r' = r ∧ i_Rel (k + 4) u v) v v1) u v1 := by
  have J := I
  obtain ⟨P, K, G, F, R, T, A, L, rfl, rfl, ok, hT⟩ := I
  unfold wpX_heaviest wpY_heaviest
  dsimp only
  rcases hp_place v1 with ⟨w, hw, rfl⟩ | bad
  · have hY : ∀ post : Int32 → Prop, post (hp_hv G F R w 24).1 → ∃ n, wY_heaviest_18 post (nI w) T K G F R A L n (-3) 0 0 := by
      intro post h
      refine loop_0 (σ := Int32 × Int32) (fun n i q => wY_heaviest_18 post (nI w) T K G F R A L n q.1 q.2 (nI i)) (fun i q => q = hp_hv G F R w i) 24 (-3, 0) rfl ?_ ?_
      · intro n q e; cases e
        exact br_t hp_le24 h
      · intro n i q hi e ih; cases e
        refine br_f (hp_n24 hi) (ya_isAlive ok hw (fun z => br_t rfl (br_t (hp_hv_0 i) (nm_r (nI_1 i) (ih (hp_hv G F R w i) (hp_hv_f (fun y => z ((hp_in_nI hi).mpr y.1))).symm)))) (fun z => br_f (by decide) (ya_kept ok hw (ya_sum hw (br_c (fun y => nm_r (nI_1 i) (ih (hp_hv G F R w i) (hp_hv_f (fun x => x.2 y)).symm)) (fun y => nm_r (nI_1 i) (ih (nI i, hp_own G F R w i) (hp_hv_t ⟨(hp_in_nI hi).mp z, y⟩).symm)))))))
    have hX : ∀ post : Int32 → Prop, post (hp_hv G F R w 24).1 → ∃ n, wX_heaviest_24 post (nI w) (hp_clo F w (hp_rts R w) 0) P K G F R n (-3) 0 0 := by
      intro post h
      refine loop_0 (σ := Int32 × Int32) (fun n i q => wX_heaviest_24 post (nI w) (hp_clo F w (hp_rts R w) 0) P K G F R n q.1 q.2 (nI i)) (fun i q => q = hp_hv G F R w i) 24 (-3, 0) rfl ?_ ?_
      · intro n q e; cases e
        exact br_t hp_le24 h
      · intro n i q hi e ih; cases e
        refine br_f (hp_n24 hi) (xa_if hi (fun z => nm_r (nI_1 i) (ih (hp_hv G F R w i) (hp_hv_f (fun y => z y.1)).symm)) (fun z => xa_lost ok hw (xa_sum hw (br_c (fun y => nm_r (nI_1 i) (ih (hp_hv G F R w i) (hp_hv_f (fun x => x.2 y)).symm)) (fun y => nm_r (nI_1 i) (ih (nI i, hp_own G F R w i) (hp_hv_t ⟨z, y⟩).symm))))))
    exact xa_plT hw (xa_alive ok hw (hX _ (ya_plT hw (hY _ ⟨rfl, J⟩))))
  · exact xa_plF bad (ya_plF bad ⟨rfl, J⟩)
noncomputable def hp_more (K G F R : Nat → Int32) (i : Nat) : Int32 := hp_by K G F R 2 (nI i) - hp_by K G F R 1 (nI i)
noncomputable def hp_gw (K G F R : Nat → Int32) : Nat → Int32 × Int32
  | 0 => (0, 0)
  | n + 1 => if n = 0 ∨ ¬ hp_more K G F R n ≤ (hp_gw K G F R n).2 then (nI n, hp_more K G F R n) else hp_gw K G F R n
theorem hp_gw_t {n : Nat} (h : n = 0 ∨ ¬ hp_more K G F R n ≤ (hp_gw K G F R n).2) : hp_gw K G F R (n + 1) = (nI n, hp_more K G F R n) := if_pos h
theorem hp_gw_f {n : Nat} (h : ¬ (n = 0 ∨ ¬ hp_more K G F R n ≤ (hp_gw K G F R n).2)) : hp_gw K G F R (n + 1) = hp_gw K G F R n := if_neg h
theorem hp_nI0 {n : Nat} (h : n < 24) : nI n = 0 ↔ n = 0 := by
  rw [← nI_0]
  exact nI_eq (by omega) (by omega)
theorem xa_bytes {post : Int32 → Prop} (ok : hp_ok P F R) (hw : w < 3) {c : Nat} (hc : c < 4) (h : post (hp_by K G F R w (nI c))) : wpX_bytes post (P, K, G, F, R) (nI w) (nI c) := by
  unfold wpX_bytes
  dsimp only
  exact xa_plT hw (br_f (hp_nI_m1 (by omega)) (xa_kdT hc (xa_bytes21 ok hw h)))
theorem i_vc_grown {k : Nat} {u : SX} {v : SY} (I : i_Rel k u v) (hk : k + 4 ≤ 2048) : wpX_grown (fun r => wpY_grown (fun r' => r' = r ∧ i_Rel (k + 4) u v) v) u := by
  have J := I
  obtain ⟨P, K, G, F, R, T, A, L, rfl, rfl, ok, hT⟩ := I
  unfold wpX_grown wpY_grown
  dsimp only
  have hY : ∀ post : Int32 → Prop, post (hp_gw K G F R 4).1 → ∃ n, wY_grown_6 post T K G F R A L n 0 0 0 := by
    intro post h
    refine loop_0 (σ := Int32 × Int32) (fun n i q => wY_grown_6 post T K G F R A L n q.1 q.2 (nI i)) (fun i q => q = hp_gw K G F R i) 4 (0, 0) rfl ?_ ?_
    · intro n q e; cases e
      exact br_t hp_le4 h
    · intro n i q hi e ih; cases e
      refine br_f (hp_n4 hi) (ya_live (w := 2) ok (by omega) (ya_kind (w := 2) (by omega) (ya_sum (w := 2) (by omega) (ya_live (w := 1) ok (by omega) (ya_kind (w := 1) (by omega) (ya_sum (w := 1) (by omega) (nm_r (e' := hp_more K G F R i) rfl (br_c (fun y => nm_r (nI_1 i) (ih (nI i, hp_more K G F R i) (hp_gw_t (Or.inl ((hp_nI0 (by omega)).mp y))).symm)) (fun y => br_c (fun z => nm_r (nI_1 i) (ih (hp_gw K G F R i) (hp_gw_f (fun x => x.elim (fun x => y ((hp_nI0 (by omega)).mpr x)) (fun x => x z))).symm)) (fun z => nm_r (nI_1 i) (ih (nI i, hp_more K G F R i) (hp_gw_t (Or.inr z)).symm)))))))))))
  have hX : ∀ post : Int32 → Prop, post (hp_gw K G F R 4).1 → ∃ n, wX_grown_6 post P K G F R n 0 0 0 := by
    intro post h
    refine loop_0 (σ := Int32 × Int32) (fun n i q => wX_grown_6 post P K G F R n q.1 q.2 (nI i)) (fun i q => q = hp_gw K G F R i) 4 (0, 0) rfl ?_ ?_
    · intro n q e; cases e
      exact br_t hp_le4 h
    · intro n i q hi e ih; cases e
      refine br_f (hp_n4 hi) (xa_bytes (w := 2) ok (by omega) hi (xa_bytes (w := 1) ok (by omega) hi (nm_r (e' := hp_more K G F R i) rfl (br_c (fun y => nm_r (nI_1 i) (ih (nI i, hp_more K G F R i) (hp_gw_t (Or.inl ((hp_nI0 (by omega)).mp y))).symm)) (fun y => br_c (fun z => nm_r (nI_1 i) (ih (hp_gw K G F R i) (hp_gw_f (fun x => x.elim (fun x => y ((hp_nI0 (by omega)).mpr x)) (fun x => x z))).symm)) (fun z => nm_r (nI_1 i) (ih (nI i, hp_more K G F R i) (hp_gw_t (Or.inr z)).symm)))))))
  exact hX _ (hY _ ⟨rfl, J⟩)
end
