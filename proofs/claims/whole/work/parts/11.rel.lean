/-! the relation, and the calls that only count and add -/
def i_Rel (k : Nat) (u : SX) (v : SY) : Prop := ∃ P K G F R T A L : Nat → Int32, u = (P, K, G, F, R) ∧ v = (T, K, G, F, R, A, L) ∧ hp_ok P F R ∧ hp_T P T
theorem i_up {k : Nat} {u : SX} {v : SY} (h : i_Rel k u v) : i_Rel (k + 4) u v := h
theorem hp_place (x : Int32) : (∃ w, w < 3 ∧ x = nI w) ∨ (x < 0 ∨ nI 3 ≤ x) := by
  rcases pk_ix x (n := 3) (by decide) with h | h | h
  · exact Or.inr (Or.inl h)
  · exact Or.inr (Or.inr h)
  · exact Or.inl h
theorem hp_four (x : Int32) : (∃ w, w < 4 ∧ x = nI w) ∨ (x < 0 ∨ nI 4 ≤ x) := by
  rcases pk_ix x (n := 4) (by decide) with h | h | h
  · exact Or.inr (Or.inl h)
  · exact Or.inr (Or.inr h)
  · exact Or.inl h
theorem xa_plT {A B : Prop} {w : Nat} (hw : w < 3) (h : B) : wpX_isPlace (fun r => (r = 0 → A) ∧ (¬ r = 0 → B)) (nI w) :=
  br_f (nI_pos (by omega)) (br_f (nI_ge (b := 3) hw (by decide)) (br_f (by decide) h))
theorem xa_plF {A B : Prop} {x : Int32} (hx : x < 0 ∨ nI 3 ≤ x) (h : A) : wpX_isPlace (fun r => (r = 0 → A) ∧ (¬ r = 0 → B)) x :=
  br_c (fun _ => br_t rfl h) (fun n => br_t (hx.resolve_left n) (br_t rfl h))
theorem xa_kdT {A B : Prop} {w : Nat} (hw : w < 4) (h : B) : wpX_isKind (fun r => (r = 0 → A) ∧ (¬ r = 0 → B)) (nI w) :=
  br_f (nI_pos (by omega)) (br_f (nI_ge (b := 4) hw (by decide)) (br_f (by decide) h))
theorem xa_kdF {A B : Prop} {x : Int32} (hx : x < 0 ∨ nI 4 ≤ x) (h : A) : wpX_isKind (fun r => (r = 0 → A) ∧ (¬ r = 0 → B)) x :=
  br_c (fun _ => br_t rfl h) (fun n => br_t (hx.resolve_left n) (br_t rfl h))
theorem xa_rtT {A B : Prop} {w : Nat} (hw : w < 4) (h : B) : wpX_isRoot (fun r => (r = 0 → A) ∧ (¬ r = 0 → B)) (nI w) :=
  br_f (nI_pos (by omega)) (br_f (nI_ge (b := 4) hw (by decide)) (br_f (by decide) h))
theorem xa_rtF {A B : Prop} {x : Int32} (hx : x < 0 ∨ nI 4 ≤ x) (h : A) : wpX_isRoot (fun r => (r = 0 → A) ∧ (¬ r = 0 → B)) x :=
  br_c (fun _ => br_t rfl h) (fun n => br_t (hx.resolve_left n) (br_t rfl h))
section
variable {P T K G F R A L : Nat → Int32} {w : Nat}
theorem ya_plT {C B : Prop} (hw : w < 3) (h : B) : wpY_isPlace (fun r => (r = 0 → C) ∧ (¬ r = 0 → B)) (T, K, G, F, R, A, L) (nI w) := by
  unfold wpY_isPlace
  dsimp only
  refine ya_in (j := w) (n := 2) (by omega) (by decide) ?_
  exact ⟨rfl, br_f (by decide) h⟩
theorem ya_plF {C B : Prop} {x : Int32} (hx : x < 0 ∨ nI 3 ≤ x) (h : C) : wpY_isPlace (fun r => (r = 0 → C) ∧ (¬ r = 0 → B)) (T, K, G, F, R, A, L) x := by
  unfold wpY_isPlace
  dsimp only
  refine ya_out (n := 2) (by decide) hx ?_
  exact ⟨rfl, br_t rfl h⟩
theorem ya_4T {C B : Prop} (hw : w < 4) (h : B) : wpY_isIn (fun r => (r = 0 → C) ∧ (¬ r = 0 → B)) (T, K, G, F, R, A, L) (nI w) 0 3 := by
  refine ya_in (j := w) (n := 3) (by omega) (by decide) ?_
  exact br_f (by decide) h
theorem ya_4F {C B : Prop} {x : Int32} (hx : x < 0 ∨ nI 4 ≤ x) (h : C) : wpY_isIn (fun r => (r = 0 → C) ∧ (¬ r = 0 → B)) (T, K, G, F, R, A, L) x 0 3 := by
  refine ya_out (n := 3) (by decide) hx ?_
  exact br_t rfl h
theorem i_vc_objects {k : Nat} {u : SX} {v : SY} (I : i_Rel k u v) (hk : k + 4 ≤ 2048) : wpX_objects (fun r => wpY_objects (fun r' => r' = r ∧ i_Rel (k + 4) u v) v) u := by
  have J := I
  obtain ⟨P, K, G, F, R, T, A, L, rfl, rfl, ok, hT⟩ := I
  unfold wpX_objects wpY_objects
  dsimp only
  exact xa_count (ya_all ok hT (ya_bits ⟨rfl, J⟩))
theorem i_vc_garbage {k : Nat} {u : SX} {v : SY} (I : i_Rel k u v) (hk : k + 4 ≤ 2048) : wpX_garbage (fun r => wpY_garbage (fun r' => r' = r ∧ i_Rel (k + 4) u v) v) u := by
  have J := I
  obtain ⟨P, K, G, F, R, T, A, L, rfl, rfl, ok, hT⟩ := I
  unfold wpX_garbage wpY_garbage
  dsimp only
  exact xa_alive (w := 0) ok (by omega) (nm_e (xa_sum (w := 0) (by omega) (ya_all ok hT (ya_live (w := 0) ok (by omega) (ya_sum (w := 0) (by omega) ⟨rfl, J⟩)))))
theorem i_vc_alive {k : Nat} {u : SX} {v : SY} (I : i_Rel k u v) (hk : k + 4 ≤ 2048) (v1 : Int32) : wpX_alive (fun r => wpY_alive (fun r' => r' = r ∧ i_Rel (k + 4) u v) v v1) u v1 := by
  have J := I
  obtain ⟨P, K, G, F, R, T, A, L, rfl, rfl, ok, hT⟩ := I
  unfold wpX_alive wpY_alive
  dsimp only
  rcases hp_place v1 with ⟨w, hw, rfl⟩ | bad
  · exact xa_plT hw (xa_alive ok hw (xa_count (ya_plT hw (ya_live ok hw (ya_bits ⟨rfl, J⟩)))))
  · exact xa_plF bad (ya_plF bad ⟨rfl, J⟩)
theorem i_vc_fresh {k : Nat} {u : SX} {v : SY} (I : i_Rel k u v) (hk : k + 4 ≤ 2048) : wpX_fresh (fun r => wpY_fresh (fun r' => r' = r ∧ i_Rel (k + 4) u v) v) u := by
  have J := I
  obtain ⟨P, K, G, F, R, T, A, L, rfl, rfl, ok, hT⟩ := I
  unfold wpX_fresh wpY_fresh
  dsimp only
  exact xa_alive (w := 2) ok (by omega) (xa_alive (w := 1) ok (by omega) (nm_e (xa_count (ya_live (w := 2) ok (by omega) (ya_live (w := 1) ok (by omega) (ya_bits ⟨rfl, J⟩))))))
theorem i_vc_retained {k : Nat} {u : SX} {v : SY} (I : i_Rel k u v) (hk : k + 4 ≤ 2048) (v1 : Int32) (v2 : Int32) : wpX_retained (fun r => wpY_retained (fun r' => r' = r ∧ i_Rel (k + 4) u v) v v1 v2) u v1 v2 := by
  have J := I
  obtain ⟨P, K, G, F, R, T, A, L, rfl, rfl, ok, hT⟩ := I
  unfold wpX_retained wpY_retained
  dsimp only
  rcases hp_place v1 with ⟨w, hw, rfl⟩ | bad
  · refine xa_plT hw (xa_isAlive ok hw (fun n => br_t rfl (ya_plT hw (ya_isAlive ok hw (fun _ => br_t rfl ⟨rfl, J⟩) (fun h => absurd h n)))) (fun h => br_f (by decide) ?_))
    refine xa_lost ok hw (xa_sum hw (ya_plT hw (ya_isAlive ok hw (fun n => absurd h n) (fun _ => br_f (by decide) ?_))))
    obtain ⟨o, ho, rfl, hb⟩ := h
    exact ya_kept ok hw (ya_sum hw ⟨rfl, J⟩)
  · exact xa_plF bad (ya_plF bad ⟨rfl, J⟩)
/-- which of the kind count: only among the alive ones -/
theorem hp_kinds (ok : hp_ok P F R) (hw : w < 3) {kd : Int32} (hk : ¬ kd = -1) {i : Nat} (h : bt (hp_clo F w (hp_rts R w) 0) i = true) : bt (hp_mk (fun o => bt (P w) o && decide (K (24 * w + o) = kd)) 24) i = true ↔ bt (hp_mk (fun o => decide (kd = -1) || decide (K (24 * w + o) = kd)) 24) i = true := by
  rw [hp_mk24, hp_mk24]
  have := hp_alive ok hw h
  simp [this, hk]
theorem hp_nI_m1 {n : Nat} (h : n < 24) : ¬ nI n = -1 := hp_nI_ne (by omega)
theorem i_vc_retainedByKind {k : Nat} {u : SX} {v : SY} (I : i_Rel k u v) (hk : k + 4 ≤ 2048) (v1 : Int32) (v2 : Int32) : wpX_retainedByKind (fun r => wpY_retainedByKind (fun r' => r' = r ∧ i_Rel (k + 4) u v) v v1 v2) u v1 v2 := by
  have J := I
  obtain ⟨P, K, G, F, R, T, A, L, rfl, rfl, ok, hT⟩ := I
  unfold wpX_retainedByKind wpY_retainedByKind
  dsimp only
  rcases hp_place v1 with ⟨w, hw, rfl⟩ | bad
  · rcases hp_four v2 with ⟨c, hc, rfl⟩ | bad
    · refine xa_plT hw (xa_kdT hc (xa_kind hw (xa_lost ok hw (xa_sum hw (ya_plT hw (ya_4T hc (ya_live ok hw (ya_kind hw (ya_live ok hw (ya_sum hw ⟨?_, J⟩))))))))))
      show hp_sum G w (hp_lost F w (hp_rts R w) _) 24 = _
      unfold hp_lost
      rw [hp_clo_bar (hp_rts_S R w) (fun i hi => hp_kinds (K := K) ok hw (hp_nI_m1 (by omega)) hi)]
    · exact xa_plT hw (xa_kdF bad (ya_plT hw (ya_4F bad ⟨rfl, J⟩)))
  · exact xa_plF bad (ya_plF bad ⟨rfl, J⟩)
/-- the bytes of a kind, -1 for all -/
noncomputable def hp_by (K G F R : Nat → Int32) (w : Nat) (kd : Int32) : Int32 := hp_sum G w (hp_clo F w (hp_rts R w) 0 &&& hp_mk (fun o => decide (kd = -1) || decide (K (24 * w + o) = kd)) 24) 24
theorem xa_bytes21 {post : Int32 → Prop} (ok : hp_ok P F R) (hw : w < 3) {kd : Int32} (h : post (hp_by K G F R w kd)) : wX_bytes_21 post (nI w) kd P K G F R := by
  refine xa_alive ok hw (br_c (fun e => ?_) (fun ne => ?_))
  · refine xa_sum hw ?_
    have : hp_clo F w (hp_rts R w) 0 = hp_clo F w (hp_rts R w) 0 &&& hp_mk (fun o => decide (kd = -1) || decide (K (24 * w + o) = kd)) 24 := hp_ext fun i => by
      rw [hp_and_iff, hp_mk24]
      exact ⟨fun h => ⟨h, hp_clo_S (hp_rts_S R w) i h, by simp [e]⟩, fun h => h.1⟩
    unfold hp_by at h
    rw [← this] at h
    exact h
  · refine xa_kind hw (nm_e (xa_sum hw ?_))
    have : hp_clo F w (hp_rts R w) 0 &&& hp_mk (fun o => bt (P w) o && decide (K (24 * w + o) = kd)) 24 = hp_clo F w (hp_rts R w) 0 &&& hp_mk (fun o => decide (kd = -1) || decide (K (24 * w + o) = kd)) 24 := hp_ext fun i => by
      rw [hp_and_iff, hp_and_iff]
      exact ⟨fun h => ⟨h.1, (hp_kinds ok hw ne h.1).mp h.2⟩, fun h => ⟨h.1, (hp_kinds ok hw ne h.1).mpr h.2⟩⟩
    rw [this]
    exact h
theorem ya_kin {post : Int32 → Prop} {x : Int32} (h0 : x < 0 ∨ nI 4 ≤ x → ¬ x = -1 → post 0) (h1 : (x = -1 ∨ ∃ c, c < 4 ∧ x = nI c) → post 1) : wpY_isIn post (T, K, G, F, R, A, L) x (-1) 3 := by
  unfold wpY_isIn
  dsimp only
  rcases hp_four x with ⟨c, hc, e⟩ | bad
  · refine br_f (fun z => ?_) (br_f ?_ (h1 (Or.inr ⟨c, hc, e⟩)))
    · rw [e, Int32.lt_iff_toInt_lt, nI_toInt (by omega)] at z
      have : (-1 : Int32).toInt = -1 := by decide
      omega
    · rw [e]
      exact nI_nlt (a := 3) (b := c) (by omega) (by omega)
  · by_cases e : x = -1
    · rw [e]
      exact br_f (by decide) (br_f (by decide) (h1 (Or.inl e)))
    · refine br_c (fun _ => h0 bad e) (fun n => br_c (fun _ => h0 bad e) (fun n2 => ?_))
      exfalso
      have m1 : (-1 : Int32).toInt = -1 := by decide
      have z0 : (0 : Int32).toInt = 0 := by decide
      have t3 : (3 : Int32).toInt = 3 := by decide
      have ne : ¬ x.toInt = -1 := fun z => e (Int32.toInt_inj.mp (z.trans m1.symm))
      rw [Int32.lt_iff_toInt_lt] at n n2
      rw [Int32.lt_iff_toInt_lt, Int32.le_iff_toInt_le, nI_toInt (by omega)] at bad
      omega
theorem i_vc_bytes {k : Nat} {u : SX} {v : SY} (I : i_Rel k u v) (hk : k + 4 ≤ 2048) (v1 : Int32) (v2 : Int32) : wpX_bytes (fun r => wpY_bytes (fun r' => r' = r ∧ i_Rel (k + 4) u v) v v1 v2) u v1 v2 := by
  have J := I
  obtain ⟨P, K, G, F, R, T, A, L, rfl, rfl, ok, hT⟩ := I
  unfold wpX_bytes wpY_bytes
  dsimp only
  rcases hp_place v1 with ⟨w, hw, rfl⟩ | bad
  · have good : (v2 = -1 ∨ ∃ c, c < 4 ∧ v2 = nI c) → wX_bytes_21 (fun r => wpY_isPlace (fun r_1 => (((r_1 = 0 → ((-1 : Int32) = r ∧ i_Rel (k + 4) (P, K, G, F, R) (T, K, G, F, R, A, L))) ∧ (¬ r_1 = 0 → (wpY_isIn (fun r_10 => (((r_10 = 0 → ((-1 : Int32) = r ∧ i_Rel (k + 4) (P, K, G, F, R) (T, K, G, F, R, A, L))) ∧ (¬ r_10 = 0 → (wpY_live (fun r_19 => (wpY_ofKind (fun r_27 => (wpY_sumOf (fun r_35 => (r_35 = r ∧ i_Rel (k + 4) (P, K, G, F, R) (T, K, G, F, R, A, L))) (T, K, G, F, R, A, L) (nI w) (r_19 &&& r_27))) (T, K, G, F, R, A, L) (nI w) v2)) (T, K, G, F, R, A, L) (nI w) 0))))) (T, K, G, F, R, A, L) v2 (-1) 3))))) (T, K, G, F, R, A, L) (nI w)) (nI w) v2 P K G F R := by
      intro hv
      refine xa_bytes21 ok hw (ya_plT hw (ya_kin (fun b n => ?_) (fun _ => br_f (by decide) (ya_live ok hw (ya_kind hw (ya_sum hw ⟨rfl, J⟩))))))
      exfalso
      rcases hv with e | ⟨c, hc, e⟩
      · exact n e
      · rw [e] at b
        rcases b with b | b
        · exact nI_pos (by omega) b
        · exact nI_ge hc (by decide) b
    refine xa_plT hw (br_c (fun e => good (Or.inl e)) (fun ne => ?_))
    rcases hp_four v2 with ⟨c, hc, e⟩ | bad
    · have g := good (Or.inr ⟨c, hc, e⟩)
      subst e
      exact xa_kdT hc g
    · refine xa_kdF bad (ya_plT hw (ya_kin (fun _ _ => br_t rfl ⟨rfl, J⟩) (fun h => ?_)))
      exfalso
      rcases h with e | ⟨c, hc, e⟩
      · exact ne e
      · rw [e] at bad
        rcases bad with b | b
        · exact nI_pos (by omega) b
        · exact nI_ge hc (by decide) b
  · exact xa_plF bad (ya_plF bad ⟨rfl, J⟩)
end
