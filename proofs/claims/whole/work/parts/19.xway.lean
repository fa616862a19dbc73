/-! X's depth and way -/
section
variable {P T K G F R A L : Nat → Int32} {w o : Nat}
theorem hp_it_00 (F : Nat → Int32) (w : Nat) (s : Int32) : hp_it F w s 0 0 = s := hp_ext fun i => by
  show bt (s &&& (0 ^^^ (-1))) i = true ↔ _
  rw [hp_andn_iff]
  exact ⟨fun h => h.1, fun h => ⟨h, hp_0⟩⟩
theorem hp_it_s0 (F : Nat → Int32) (w : Nat) (s : Int32) (k : Nat) : hp_it F w s 0 (k + 1) = hp_it F w s 0 k ||| hp_suc F w (hp_it F w s 0 k) := hp_ext fun i => by
  rw [hp_it_s, hp_or_iff, hp_or_iff, hp_andn_iff]
  exact ⟨fun h => h.imp id (fun z => z.1), fun h => h.imp id (fun z => ⟨z, hp_0⟩)⟩
theorem xa_lref {post : Int32 → Prop} (ok : hp_ok P F R) (hw : w < 3) {x : Int32} (h1 : ∀ d o, d ≤ 23 → o < 24 → x = nI o → bt (hp_it F w (hp_rts R w) 0 d) o = true → (∀ j, j < d → ¬ bt (hp_it F w (hp_rts R w) 0 j) o = true) → post (nI (d + 1))) (h0 : ¬ hp_in (hp_clo F w (hp_rts R w) 0) x → post (-3)) : wpX_leastReferences post (P, K, G, F, R) (nI w) x := by
  refine xa_rts ok hw ?_
  refine loop_0 (fun n i t => wX_leastReferences_9 post (nI w) x P K G F R n t (nI (i + 1))) (fun i t => t = hp_it F w (hp_rts R w) 0 i ∧ ∀ j, j < i → ¬ hp_in (hp_it F w (hp_rts R w) 0 j) x) 24 (hp_rts R w) ⟨(hp_it_00 F w _).symm, fun j hj => absurd hj (by omega)⟩ ?_ ?_
  · rintro n t ⟨e, hn⟩
    refine br_t (by decide +kernel : (24 : Int32) < nI 25) (h0 ?_)
    rw [← hp_lev_23 (hp_rts_S R w)]
    exact hn 23 (by omega)
  · rintro n i t hi ⟨e, hn⟩ ih
    subst e
    refine br_f (nI_nlt (a := 24) (b := i + 1) (by omega) (by decide)) (xa_ifG (fun z => xa_rtb ok hw (nm_r (hp_it_s0 F w _ i).symm (nm_r (nI_1 (i + 1)) (ih _ ⟨rfl, fun j hj => ?_⟩)))) (fun z => ?_))
    · by_cases y : j = i
      · rw [y]; exact z
      · exact hn j (by omega)
    · obtain ⟨o, ho, e, hb⟩ := z
      exact h1 i o (by omega) ho e hb (fun j hj y => hn j hj ⟨o, ho, e, y⟩)
theorem xa_coming {post : Int32 → Prop} (ok : hp_ok P F R) (hw : w < 3) {k : Nat} (hk : k ≤ 24) (h : post (hp_ct F w (P w) o k)) : wpX_comingTo post (P, K, G, F, R) (nI w) (nI o) (nI k) := by
  refine nm_e ?_
  refine loop_0 (fun n i t => wX_comingTo_8 post (nI w) (nI k) P K G F R n t (nI i)) (fun i t => t = hp_ct F w (P w) o i) k (hp_o o) rfl ?_ ?_
  · intro n t e; cases e
    exact br_t (nI_le (Nat.le_refl k) (by omega)) h
  · intro n i t hi e ih; cases e
    exact br_f (nI_ge hi (by omega)) (br_f (hp_n24 (by omega)) (xa_pre ok hw (nm_r (nI_1 i) (ih _ rfl))))
noncomputable def hp_nx (F R : Nat → Int32) (w : Nat) (Z : Int32) (o d : Nat) : Nat → Int32
  | 0 => hp_rts R w
  | i + 1 => hp_suc F w ((1 : Int32) <<< (hp_pt F R w Z o d i &&& 31))
noncomputable def hp_at (F R : Nat → Int32) (w : Nat) (Z : Int32) (o d : Nat) : Nat → Int32
  | 0 => -1
  | i + 1 => hp_pt F R w Z o d i
theorem hp_pt_eq (F R : Nat → Int32) (w : Nat) (Z : Int32) (o d : Nat) : ∀ i, hp_pt F R w Z o d i = hp_ls (hp_nx F R w Z o d i &&& hp_ct F w Z o (d - i))
  | 0 => rfl
  | _ + 1 => rfl
theorem xa_way43 {post : Int32 → Prop} (ok : hp_ok P F R) (hw : w < 3) {d i0 : Nat} (hd : d ≤ 23) (hi0 : i0 ≤ d) (h : post (hp_pt F R w (P w) o d i0)) : ∃ n, wX_way_43 post (nI w) (nI o) (nI i0) (nI (d + 1)) P K G F R n (hp_rts R w) (-1) 0 := by
  refine loop_0 (σ := Int32 × Int32) (fun n i q => wX_way_43 post (nI w) (nI o) (nI i0) (nI (d + 1)) P K G F R n q.1 q.2 (nI i)) (fun i q => q = (hp_nx F R w (P w) o d i, hp_at F R w (P w) o d i)) (i0 + 1) (hp_rts R w, -1) rfl ?_ ?_
  · intro n q e; cases e
    exact br_t (nI_lt (by omega) (by omega)) h
  · intro n i q hi e ih; cases e
    have e : (nI (d + 1) - 1) - nI i = nI (d - i) := by rw [nI_pred, pk_sub (by omega)]
    refine br_f (nI_nlt (by omega) (by omega)) (br_f (hp_n24 (by omega)) ?_)
    rw [e]
    refine xa_coming ok hw (by omega) (xa_least ?_)
    show wpX_referredToBy _ _ _ ((1 : Int32) <<< (hp_ls (hp_nx F R w (P w) o d i &&& hp_ct F w (P w) o (d - i)) &&& 31))
    rw [← hp_pt_eq]
    exact xa_rtb ok hw (nm_r (nI_1 i) (ih (_, _) rfl))
end
