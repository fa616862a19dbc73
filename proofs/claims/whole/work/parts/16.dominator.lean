/-! dominator -/
section
variable {P T K G F R A L : Nat → Int32} {w o : Nat}
noncomputable def hp_Ds (F : Nat → Int32) (w : Nat) (s : Int32) (o : Nat) : Int32 := hp_mk (fun a => !decide (a = o) && bt (hp_lost F w s (hp_o a)) o) 24
theorem hp_Ds_iff {s : Int32} {a : Nat} : bt (hp_Ds F w s o) a = true ↔ hp_D F w s o a := by
  unfold hp_Ds hp_D
  rw [hp_mk24]
  by_cases z : a = o <;> simp [z]
theorem xa_doms {post : Int32 → Prop} (ok : hp_ok P F R) (hw : w < 3) (ho : o < 24) (h : post (hp_Ds F w (hp_rts R w) o)) : wpX_dominatorsOf post (P, K, G, F, R) (nI w) (nI o) := by
  refine loop_0 (fun n i t => wX_dominatorsOf_5 post (nI w) (nI o) P K G F R n t (nI i)) (fun i t => t = hp_mk (fun a => !decide (a = o) && bt (hp_lost F w (hp_rts R w) (hp_o a)) o) i) 24 0 rfl ?_ ?_
  · intro n t e; cases e
    exact br_t hp_le24 h
  · intro n i t hi e ih; cases e
    refine br_f (hp_n24 hi) (br_c (fun e => nm_r (nI_1 i) (ih _ (hp_mk_f ?_).symm)) (fun ne => xa_lost ok hw (xa_if ho (fun b => nm_r (nI_1 i) (ih _ (hp_mk_f ?_).symm)) (fun b => nm_r (hp_mk_t (Q := fun a => !decide (a = o) && bt (hp_lost F w (hp_rts R w) (hp_o a)) o) ?_).symm (nm_r (nI_1 i) (ih _ rfl))))))
    · simp [hp_nI_inj hi ho e]
    · simp [b]
    · have : ¬ i = o := fun z => ne (by rw [z])
      simp [b, this]
theorem hp_DM_eq {s : Int32} (hs : hp_S s) {a : Nat} (h : hp_D F w s o a) : (hp_lost F w s (hp_o a) &&& hp_Ds F w s o) = hp_o a ↔ hp_DM F w s o a := by
  constructor
  · intro e
    refine ⟨h, fun b hb hl => ?_⟩
    have : bt (hp_lost F w s (hp_o a) &&& hp_Ds F w s o) b = true := hp_and_iff.mpr ⟨hl, hp_Ds_iff.mpr hb⟩
    rw [e] at this
    exact (hp_one_iff (by have := h.1; omega)).mp this
  · intro d
    refine hp_ext fun b => ?_
    rw [hp_and_iff, hp_Ds_iff, hp_one_iff (by have := h.1; omega)]
    constructor
    · rintro ⟨h1, h2⟩
      exact d.2 b h2 h1
    · rintro rfl
      exact ⟨hp_dm_self h.1 (hp_dm_alive hs h.1 h.2.2), h⟩
theorem xa_dom31 {post : Int32 → Prop} (ok : hp_ok P F R) (hw : w < 3) (h1 : ∀ a, hp_DM F w (hp_rts R w) o a → post (nI a)) (h0 : (∀ a, ¬ hp_DM F w (hp_rts R w) o a) → post (-1)) : ∃ n, wX_dominator_31 post (nI w) (hp_Ds F w (hp_rts R w) o) P K G F R n 0 := by
  refine loop_0 (fun n i (_ : Unit) => wX_dominator_31 post (nI w) (hp_Ds F w (hp_rts R w) o) P K G F R n (nI i)) (fun i _ => ∀ a, a < i → ¬ hp_DM F w (hp_rts R w) o a) 24 () (fun a ha => absurd ha (by omega)) ?_ ?_
  · intro n _ hI
    exact br_t hp_le24 (h0 (fun a d => hI a d.1.1 d))
  · intro n i _ hi hI ih
    have nx : ¬ hp_DM F w (hp_rts R w) o i → ∀ a, a < i + 1 → ¬ hp_DM F w (hp_rts R w) o a := fun z a ha => by
      by_cases y : a = i
      · rw [y]; exact z
      · exact hI a (by omega)
    refine br_f (hp_n24 hi) (xa_if hi (fun b => nm_r (nI_1 i) (ih () (nx (fun d => b (hp_Ds_iff.mpr d.1))))) (fun b => xa_lost ok hw ?_))
    have eq := hp_DM_eq (hp_rts_S R w) (hp_Ds_iff.mp b)
    exact br_c (fun e => h1 i (eq.mp e)) (fun e => nm_r (nI_1 i) (ih () (nx (fun d => e (eq.mpr d)))))
/-- the reference's search for the least set kept -/
def hp_dI (F R : Nat → Int32) (w o i : Nat) (x y : Int32) : Prop :=
  (x = -1 ∧ y = nI 25 ∧ ∀ a, a < i → ¬ hp_D F w (hp_rts R w) o a) ∨
  ∃ b, b < i ∧ x = nI b ∧ hp_D F w (hp_rts R w) o b ∧ y = nI (hp_c (hp_lost F w (hp_rts R w) (hp_o b)) 24) ∧ ∀ a, a < i → hp_D F w (hp_rts R w) o a → hp_c (hp_lost F w (hp_rts R w) (hp_o b)) 24 ≤ hp_c (hp_lost F w (hp_rts R w) (hp_o a)) 24
theorem hp_dI_skip {i : Nat} {x y : Int32} (h : hp_dI F R w o i x y) (hs : hp_D F w (hp_rts R w) o i → y ≤ nI (hp_c (hp_lost F w (hp_rts R w) (hp_o i)) 24)) : hp_dI F R w o (i + 1) x y := by
  have c0 := hp_c_le (hp_lost F w (hp_rts R w) (hp_o i)) 24
  rcases h with ⟨h1, h2, h3⟩ | ⟨b, h1, h2, h3, h4, h5⟩
  · refine Or.inl ⟨h1, h2, fun a ha d => ?_⟩
    by_cases z : a = i
    · subst z
      have := hs d
      rw [h2, nI_leI (by omega) (by omega)] at this
      omega
    · exact h3 a (by omega) d
  · refine Or.inr ⟨b, by omega, h2, h3, h4, fun a ha d => ?_⟩
    by_cases z : a = i
    · subst z
      have c1 := hp_c_le (hp_lost F w (hp_rts R w) (hp_o b)) 24
      have := hs d
      rw [h4, nI_leI (by omega) (by omega)] at this
      exact this
    · exact h5 a (by omega) d
theorem hp_dI_take {i : Nat} {x y : Int32} (h : hp_dI F R w o i x y) (d : hp_D F w (hp_rts R w) o i) (hs : ¬ y ≤ nI (hp_c (hp_lost F w (hp_rts R w) (hp_o i)) 24)) : hp_dI F R w o (i + 1) (nI i) (nI (hp_c (hp_lost F w (hp_rts R w) (hp_o i)) 24)) := by
  have c0 := hp_c_le (hp_lost F w (hp_rts R w) (hp_o i)) 24
  refine Or.inr ⟨i, by omega, rfl, d, rfl, fun a ha da => ?_⟩
  by_cases z : a = i
  · rw [z]; exact Nat.le_refl _
  · rcases h with ⟨_, _, h3⟩ | ⟨b, h1, h2, h3, h4, h5⟩
    · exact absurd da (h3 a (by omega))
    · have c1 := hp_c_le (hp_lost F w (hp_rts R w) (hp_o b)) 24
      rw [h4, nI_leI (by omega) (by omega)] at hs
      have := h5 a (by omega) da
      omega
theorem ya_dom31 {post : Int32 → Prop} (ok : hp_ok P F R) (hw : w < 3) (ho : o < 24) (h1 : ∀ a, hp_DM F w (hp_rts R w) o a → post (nI a)) (h0 : (∀ a, ¬ hp_DM F w (hp_rts R w) o a) → post (-1)) : ∃ n, wY_dominator_31 post (nI w) (nI o) T K G F R A L n (-1) 25 0 := by
  refine loop_0 (σ := Int32 × Int32) (fun n i q => wY_dominator_31 post (nI w) (nI o) T K G F R A L n q.1 q.2 (nI i)) (fun i q => hp_dI F R w o i q.1 q.2) 24 (-1, 25) (Or.inl ⟨rfl, rfl, fun a ha => absurd ha (by omega)⟩) ?_ ?_
  · rintro n ⟨x, y⟩ hI
    refine br_t hp_le24 ?_
    rcases hI with ⟨e, _, hn⟩ | ⟨b, hb, e, d, _, hm⟩
    · dsimp only at e ⊢
      rw [e]
      exact h0 (fun a d => hn a d.1.1 d.1)
    · dsimp only at e ⊢
      rw [e]
      exact h1 b (hp_DM_min (hp_rts_S R w) d (fun a da => hm a da.1 da))
  · rintro n i ⟨x, y⟩ hi hI ih
    have sk : (hp_D F w (hp_rts R w) o i → y ≤ nI (hp_c (hp_lost F w (hp_rts R w) (hp_o i)) 24)) → wY_dominator_31 post (nI w) (nI o) T K G F R A L n x y (nI (i + 1)) := fun z => ih (x, y) (hp_dI_skip hI z)
    refine br_f (hp_n24 hi) (ya_isAlive ok hw (fun z => br_t rfl ?_) (fun z => br_f (by decide) (ya_kept ok hw ?_)))
    · have nd : ¬ hp_D F w (hp_rts R w) o i := fun d => z ((hp_in_nI hi).mpr (hp_dm_alive (hp_rts_S R w) hi d.2.2))
      refine ya_bits (br_c (fun _ => nm_r (nI_1 i) (sk (fun d => absurd d nd))) (fun _ => br_f ?_ (nm_r (nI_1 i) (sk (fun d => absurd d nd)))))
      intro q
      exact hp_0 ((hp_shI 0 (by omega)).mp q)
    · refine ya_bits ?_
      rw [hp_cn_eq _ 24 (by omega)]
      refine br_c (fun e => nm_r (nI_1 i) (sk (fun d => absurd (hp_nI_inj hi ho e) d.2.1))) (fun ne => br_c (fun b => ?_) (fun b => nm_r (nI_1 i) (sk (fun d => absurd ((hp_shI _ (by omega)).mpr d.2.2) b))))
      have d : hp_D F w (hp_rts R w) o i := ⟨hi, fun e => ne (by rw [e]), (hp_shI _ (by omega)).mp b⟩
      exact br_c (fun le => nm_r (nI_1 i) (sk (fun _ => le))) (fun nle => nm_r (nI_1 i) (ih (_, _) (hp_dI_take hI d nle)))
theorem i_vc_dominator {k : Nat} {u : SX} {v : SY} (I : i_Rel k u v) (hk : k + 4 ≤ 2048) (v1 : Int32) (v2 : Int32) : wpX_dominator (fun r => wpY_dominator (fun r' => r' = r ∧ i_Rel (k + 4) u v) v v1 v2) u v1 v2 := by
  have J := I
  obtain ⟨P, K, G, F, R, T, A, L, rfl, rfl, ok, hT⟩ := I
  unfold wpX_dominator wpY_dominator
  dsimp only
  rcases hp_place v1 with ⟨w, hw, rfl⟩ | bad
  · refine xa_plT hw (xa_isAlive ok hw (fun n => br_t rfl (ya_plT hw (ya_isAlive ok hw (fun _ => br_t rfl ⟨rfl, J⟩) (fun h => absurd h n)))) (fun h => br_f (by decide) ?_))
    have h' := h
    obtain ⟨o, ho, rfl, hb⟩ := h'
    refine xa_doms ok hw ho (xa_dom31 ok hw (fun a d => ?_) (fun n => ?_))
    · refine ya_plT hw (ya_isAlive ok hw (fun n => absurd h n) (fun _ => br_f (by decide) (ya_dom31 ok hw ho (fun b d' => ⟨?_, J⟩) (fun n => absurd d (n a)))))
      rw [hp_DM_uniq (hp_rts_S R w) d' d]
    · exact ya_plT hw (ya_isAlive ok hw (fun n => absurd h n) (fun _ => br_f (by decide) (ya_dom31 ok hw ho (fun b d' => absurd d' (n b)) (fun _ => ⟨rfl, J⟩))))
  · exact xa_plF bad (ya_plF bad ⟨rfl, J⟩)
end
