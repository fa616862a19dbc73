/-! X's private methods against the pure sets -/
theorem hp_le4 : (4 : Int32) ≤ nI 4 := by decide +kernel
theorem hp_le24 : (24 : Int32) ≤ nI 24 := by decide +kernel
theorem hp_le96 : (96 : Int32) ≤ nI 96 := by decide +kernel
theorem hp_n24 {i : Nat} (h : i < 24) : ¬ (24 : Int32) ≤ nI i := nI_ge (b := 24) h (by decide)
theorem hp_n4 {i : Nat} (h : i < 4) : ¬ (4 : Int32) ≤ nI i := nI_ge (b := 4) h (by decide)
theorem hp_n96 {i : Nat} (h : i < 96) : ¬ (96 : Int32) ≤ nI i := nI_ge (b := 96) h (by decide)
theorem hp_ixr (w r : Nat) : nI w * 4 + nI r = nI (4 * w + r) := by
  show nI w * nI 4 + nI r = _
  rw [pk_mul, nI_add]
  exact congrArg nI (by omega)
theorem hp_ixo (w o : Nat) : nI w * 24 + nI o = nI (24 * w + o) := by
  show nI w * nI 24 + nI o = _
  rw [pk_mul, nI_add]
  exact congrArg nI (by omega)
theorem hp_ixf (w o f : Nat) : (nI w * 24 + nI o) * 4 + nI f = nI (96 * w + (4 * o + f)) := by
  rw [hp_ixo]
  show nI (24 * w + o) * nI 4 + nI f = _
  rw [pk_mul, nI_add]
  exact congrArg nI (by omega)
theorem hp_mk_t {Q : Nat → Bool} {n : Nat} (h : Q n = true) : hp_mk Q (n + 1) = hp_mk Q n ||| hp_o n := if_pos h
theorem hp_mk_f {Q : Nat → Bool} {n : Nat} (h : ¬ Q n = true) : hp_mk Q (n + 1) = hp_mk Q n := if_neg h
theorem hp_sum_t {G : Nat → Int32} {w : Nat} {s : Int32} {n : Nat} (h : bt s n = true) : hp_sum G w s (n + 1) = hp_sum G w s n + G (24 * w + n) := if_pos h
theorem hp_sum_f {G : Nat → Int32} {w : Nat} {s : Int32} {n : Nat} (h : ¬ bt s n = true) : hp_sum G w s (n + 1) = hp_sum G w s n := if_neg h
theorem xa_has {post : Int32 → Prop} {s : Int32} {j : Nat} (hj : j < 24) (h0 : ¬ bt s j = true → post 0) (h1 : bt s j = true → post 1) : wpX_contains post s (nI j) :=
  br_f (nI_pos (by omega)) (br_f (hp_n24 hj) (br_c (fun h => h1 ((hp_shI s (by omega)).mp h)) (fun h => h0 (fun z => h ((hp_shI s (by omega)).mpr z)))))
theorem xa_if {A B : Prop} {s : Int32} {j : Nat} (hj : j < 24) (h0 : ¬ bt s j = true → A) (h1 : bt s j = true → B) : wpX_contains (fun r => (r = 0 → A) ∧ (¬ r = 0 → B)) s (nI j) :=
  xa_has hj (fun h => br_t rfl (h0 h)) (fun h => br_f (by decide) (h1 h))
/-- x is the number of a member -/
def hp_in (s x : Int32) : Prop := ∃ j, j < 24 ∧ x = nI j ∧ bt s j = true
theorem xa_hasG {post : Int32 → Prop} {s x : Int32} (h0 : ¬ hp_in s x → post 0) (h1 : hp_in s x → post 1) : wpX_contains post s x := by
  rcases pk_ix x (n := 24) (by decide) with h | h | ⟨j, hj, e⟩
  · refine br_t h (h0 ?_)
    rintro ⟨j, hj, e, _⟩
    rw [e] at h
    exact nI_pos (by omega) h
  · refine br_c (fun _ => h0 ?_) (fun _ => br_t h (h0 ?_)) <;>
    · rintro ⟨j, hj, e, _⟩
      rw [e] at h
      exact nI_ge hj (by decide) h
  · subst e
    refine xa_has hj (fun h => h0 ?_) (fun h => h1 ⟨j, hj, rfl, h⟩)
    rintro ⟨i, hi, e, hb⟩
    rw [hp_nI_inj hj hi e] at h
    exact h hb
theorem xa_ifG {A B : Prop} {s x : Int32} (h0 : ¬ hp_in s x → A) (h1 : hp_in s x → B) : wpX_contains (fun r => (r = 0 → A) ∧ (¬ r = 0 → B)) s x :=
  xa_hasG (fun h => br_t rfl (h0 h)) (fun h => br_f (by decide) (h1 h))
theorem hp_in_nI {s : Int32} {j : Nat} (hj : j < 24) : hp_in s (nI j) ↔ bt s j = true := by
  constructor
  · rintro ⟨i, hi, e, hb⟩
    rw [hp_nI_inj hj hi e]; exact hb
  · intro h; exact ⟨j, hj, rfl, h⟩
theorem xa_least {post : Int32 → Prop} {s : Int32} (h : post (hp_ls s)) : wpX_least post s := by
  refine loop_0 (fun n i (_ : Unit) => wX_least_2 post s n (nI i)) (fun i _ => ∀ j, j < i → ¬ bt s j = true) 24 () (fun j hj => absurd hj (by omega)) ?_ ?_
  · intro n _ hI
    rw [hp_ls_none hI] at h
    exact br_t hp_le24 h
  · intro n i _ hi hI ih
    refine br_f (hp_n24 hi) (xa_if hi (fun hb => nm_r (nI_1 i) (ih () ?_)) (fun hb => ?_))
    · intro j hj
      by_cases z : j = i
      · rw [z]; exact hb
      · exact hI j (by omega)
    · rw [hp_ls_of hi hb hI] at h
      exact h
theorem xa_count {post : Int32 → Prop} {s : Int32} (h : post (hp_cn s 24)) : wpX_count post s := by
  refine loop_0 (fun n i t => wX_count_4 post s n t (nI i)) (fun i t => t = hp_cn s i) 24 0 rfl ?_ ?_
  · intro n t e; cases e
    exact br_t hp_le24 h
  · intro n i t hi e ih; cases e
    exact br_f (hp_n24 hi) (nm_e (nm_r (nI_1 i) (ih _ rfl)))
section
variable {P K G F R : Nat → Int32} {w : Nat} {post : Int32 → Prop}
theorem xa_rts (ok : hp_ok P F R) (hw : w < 3) (h : post (hp_rts R w)) : wpX_referredToByRoots post (P, K, G, F, R) (nI w) := by
  refine loop_0 (fun n i t => wX_referredToByRoots_4 post (nI w) P K G F R n t (nI i)) (fun i t => hp_rI R w i t) 4 0 hp_rI_0 ?_ ?_
  · intro n t hI
    rw [← hp_rI_4 hI] at h
    exact br_t hp_le4 h
  · intro n i t hi hI ih
    refine br_f (hp_n4 hi) ⟨pk_in (4 * w + i) 12 (by omega) (hp_ixr w i), nm_r (congrArg R (pk_cl (4 * w + i) (hp_ixr w i))) ?_⟩
    rcases ok.2.2.1 w i hw hi with z | ⟨p, hp, e, _⟩
    · exact br_t z (nm_r (nI_1 i) (ih _ (hp_rI_skip hI z)))
    · rw [e]
      exact br_f (hp_nI_ne (by omega)) (nm_e (nm_r (nI_1 i) (ih _ (hp_rI_add hI hp e))))
theorem xa_rtb15 (ok : hp_ok P F R) (hw : w < 3) {s : Int32} {o : Nat} (ho : o < 24) {J : Int32 → Int32 → Prop} (hJ : ∀ t, hp_sI F w s 0 (4 * (o + 1)) t → J t (nI (o + 1))) {t : Int32} (h : hp_sI F w s 0 (4 * o) t) : ∃ n, wX_referredToBy_15 post J (nI w) s (nI o) P K G F R n t 0 := by
  refine loop_0 (fun n i t => wX_referredToBy_15 post J (nI w) s (nI o) P K G F R n t (nI i)) (fun i t => hp_sI F w s 0 (4 * o + i) t) 4 t h ?_ ?_
  · intro n t hI
    exact br_t hp_le4 (nm_r (nI_1 o) (hJ t hI))
  · intro n i t hi hI ih
    have m4 : (4 * o + i) / 4 = o := by omega
    refine br_f (hp_n4 hi) ⟨pk_in (96 * w + (4 * o + i)) 288 (by omega) (hp_ixf w o i), nm_r (congrArg F (pk_cl (96 * w + (4 * o + i)) (hp_ixf w o i))) ?_⟩
    rcases ok.2.1 (96 * w + (4 * o + i)) (by omega) with z | ⟨p, hp, e⟩
    · exact br_t z (nm_r (nI_1 i) (ih _ (hp_sI_skip hI (fun _ => z))))
    · rw [e]
      exact br_f (hp_nI_ne (by omega)) (xa_if ho (fun hb => nm_r (nI_1 i) (ih _ (hp_sI_skip hI (fun y => absurd (m4 ▸ y) hb)))) (fun hb => nm_e (nm_r (nI_1 i) (ih _ (hp_sI_add hI hp (m4.symm ▸ hb) e)))))
theorem xa_rtb (ok : hp_ok P F R) (hw : w < 3) {s : Int32} (h : post (hp_suc F w s)) : wpX_referredToBy post (P, K, G, F, R) (nI w) s := by
  refine loop_0 (fun n i t => wX_referredToBy_5 post (nI w) s P K G F R n t (nI i)) (fun i t => hp_sI F w s 0 (4 * i) t) 24 0 hp_sI_0 ?_ ?_
  · intro n t hI
    have := hp_sI_96 hI
    rw [hp_or_0] at this
    rw [← this] at h
    exact br_t hp_le24 h
  · intro n i t hi hI ih
    exact br_f (hp_n24 hi) (xa_rtb15 ok hw hi (fun t ht => ih t ht) hI)
theorem xa_spread (ok : hp_ok P F R) (hw : w < 3) {s b : Int32} (h : post (hp_clo F w s b)) : wpX_spread post (P, K, G, F, R) (nI w) s b := by
  refine nm_e ?_
  refine loop_0 (fun n i t => wX_spread_10 post (nI w) b P K G F R n t (nI i)) (fun i t => t = hp_it F w s b i) 24 (s &&& (b ^^^ (-1))) rfl ?_ ?_
  · intro n t e; cases e
    exact br_t hp_le24 h
  · intro n i t hi e ih; cases e
    refine br_f (hp_n24 hi) (xa_rtb ok hw (nm_e (br_c (fun e => ?_) (fun _ => nm_r (nI_1 i) (ih _ rfl)))))
    rw [hp_it_still (by omega) e]
    exact h
theorem xa_alive (ok : hp_ok P F R) (hw : w < 3) (h : post (hp_clo F w (hp_rts R w) 0)) : wpX_aliveIn post (P, K, G, F, R) (nI w) :=
  xa_rts ok hw (xa_spread ok hw h)
theorem xa_lost (ok : hp_ok P F R) (hw : w < 3) {b : Int32} (h : post (hp_lost F w (hp_rts R w) b)) : wpX_lostWithout post (P, K, G, F, R) (nI w) b :=
  xa_rts ok hw (xa_spread ok hw (xa_spread ok hw h))
theorem xa_isAlive (ok : hp_ok P F R) (hw : w < 3) {x : Int32} (h0 : ¬ hp_in (hp_clo F w (hp_rts R w) 0) x → post 0) (h1 : hp_in (hp_clo F w (hp_rts R w) 0) x → post 1) : wpX_isAlive post (P, K, G, F, R) (nI w) x :=
  xa_alive ok hw (xa_hasG (fun h => ⟨rfl, h0 h⟩) (fun h => ⟨rfl, h1 h⟩))
theorem xa_sum (hw : w < 3) {s : Int32} (h : post (hp_sum G w s 24)) : wpX_sumOfSizes post (P, K, G, F, R) (nI w) s := by
  refine loop_0 (fun n i t => wX_sumOfSizes_5 post (nI w) s P K G F R n t (nI i)) (fun i t => t = hp_sum G w s i) 24 0 rfl ?_ ?_
  · intro n t e; cases e
    exact br_t hp_le24 h
  · intro n i t hi e ih; cases e
    refine br_f (hp_n24 hi) (xa_if hi (fun hb => nm_r (nI_1 i) (ih _ (hp_sum_f hb).symm)) (fun hb => ⟨pk_in (24 * w + i) 72 (by omega) (hp_ixo w i), nm_r ?_ (nm_r (nI_1 i) (ih _ rfl))⟩))
    rw [hp_sum_t hb, pk_cl (24 * w + i) (hp_ixo w i)]
theorem xa_kind (hw : w < 3) {kd : Int32} (h : post (hp_mk (fun o => bt (P w) o && decide (K (24 * w + o) = kd)) 24)) : wpX_ofKind post (P, K, G, F, R) (nI w) kd := by
  refine loop_0 (fun n i t => wX_ofKind_5 post (nI w) kd P K G F R n t (nI i)) (fun i t => t = hp_mk (fun o => bt (P w) o && decide (K (24 * w + o) = kd)) i) 24 0 rfl ?_ ?_
  · intro n t e; cases e
    exact br_t hp_le24 h
  · intro n i t hi e ih; cases e
    refine br_f (hp_n24 hi) ⟨vp_in_nI hw (by decide), ?_⟩
    rw [nI_clamp (by omega : w < 2 ^ 31)]
    refine xa_if hi (fun hb => nm_r (nI_1 i) (ih _ (hp_mk_f (by simp [hb])).symm)) (fun hb => ⟨pk_in (24 * w + i) 72 (by omega) (hp_ixo w i), ?_⟩)
    rw [pk_cl (24 * w + i) (hp_ixo w i)]
    exact br_c (fun e => nm_r (hp_mk_t (Q := fun o => bt (P w) o && decide (K (24 * w + o) = kd)) (by simp [hb, e])).symm (nm_r (nI_1 i) (ih _ rfl))) (fun e => nm_r (nI_1 i) (ih _ (hp_mk_f (by simp [e])).symm))
theorem xa_left (ok : hp_ok P F R) (h : post (hp_sw F (hp_rts R 0) (P 0) 24)) : wpX_leftBySweep post (P, K, G, F, R) := by
  refine xa_rts (w := 0) ok (by omega) (nm_e ?_)
  refine loop_0 (fun n i t => wX_leftBySweep_15 post (hp_rts R 0) P K G F R n t (nI i)) (fun i t => t = hp_sw F (hp_rts R 0) (P 0) i) 24 (P 0) rfl ?_ ?_
  · intro n t e; cases e
    exact br_t hp_le24 h
  · intro n i t hi e ih; cases e
    exact br_f (hp_n24 hi) (xa_rtb (w := 0) ok (by omega) (nm_e (nm_r (nI_1 i) (ih _ rfl))))
end
