/-! the reference's private methods against the pure sets -/
theorem hp_ixF (w m : Nat) : 96 * nI w + nI m = nI (96 * w + m) := by
  show nI 96 * nI w + nI m = _
  rw [pk_mul, nI_add]
theorem hp_ixO (w o : Nat) : 24 * nI w + nI o = nI (24 * w + o) := by
  show nI 24 * nI w + nI o = _
  rw [pk_mul, nI_add]
theorem hp_ixR (w r : Nat) : 4 * nI w + nI r = nI (4 * w + r) := by
  show nI 4 * nI w + nI r = _
  rw [pk_mul, nI_add]
theorem hp_ixG (w o f : Nat) : (96 * nI w + 4 * nI o) + nI f = nI (96 * w + (4 * o + f)) := by
  show (nI 96 * nI w + nI 4 * nI o) + nI f = _
  rw [pk_mul, pk_mul, nI_add, nI_add]
  exact congrArg nI (by omega)
theorem hp_div4 {i : Nat} (h : i < 96) : nI i / 4 = nI (i / 4) := pk_div (d := 4) (by omega) (by omega) (by decide)
theorem hp_4ne : ¬ (4 : Int32) = 0 := by decide
theorem hp_m1neg : (-1 : Int32) < 0 := by decide
theorem hp_vb1 : vp_nar .boolean 1 = 1 := rfl
theorem hp_vb0 : vp_nar .boolean 0 = 0 := rfl
theorem hp_T0 {P T : Nat → Int32} (h : hp_T P T) {o : Nat} (ho : o < 24) : T o = if bt (P 0) o = true then 1 else 0 := by
  have := h 0 o (by omega) ho
  rw [show 24 * 0 + o = o by omega] at this
  exact this
section
variable {T K G F R A L P : Nat → Int32} {w : Nat} {post : Int32 → Prop}
theorem ya_in {j n : Nat} (hj : j ≤ n) (hn : n < 2 ^ 31) (h : post 1) : wpY_isIn post (T, K, G, F, R, A, L) (nI j) 0 (nI n) :=
  br_f (nI_pos (by omega)) (br_f (nI_nlt hj hn) h)
theorem ya_out {x : Int32} {n : Nat} (hn : n + 1 < 2 ^ 31) (hx : x < 0 ∨ nI (n + 1) ≤ x) (h : post 0) : wpY_isIn post (T, K, G, F, R, A, L) x 0 (nI n) := by
  refine br_c (fun _ => h) (fun h0 => br_t ?_ h)
  rcases hx with z | z
  · exact absurd z h0
  · obtain ⟨j, hj, rfl⟩ := nI_of h0
    rw [nI_leI hn hj] at z
    exact nI_lt (by omega) hj
/-- one field's turn: what it refers to is added or not -/
theorem ya_live67 {s b t0 : Int32} (ok : hp_ok P F R) (hw : w < 3) (hs : hp_S s) {J : Int32 → Int32 → Prop} (hJ : ∀ t, hp_lv F w (fun _ => False) b (hp_clo F w s b) t0 96 t → J t t0) (h0 : ∀ i, bt t0 i = true → bt (hp_clo F w s b) i = true) : ∃ n, wY_live_67 post J (nI w) b t0 T K G F R A L n t0 0 := by
  have hC : ∀ a p, (False ∨ bt (hp_clo F w s b) a = true) → hp_E F w a p → p < 24 → ¬ bt b p = true → bt (hp_clo F w s b) p = true := fun a p h he hp hb => hp_clo_step hs (h.resolve_left id) he hp hb
  refine loop_0 (fun n i t => wY_live_67 post J (nI w) b t0 T K G F R A L n t (nI i)) (fun i t => hp_lv F w (fun _ => False) b (hp_clo F w s b) t0 i t) 96 t0 (hp_lv_0 h0) ?_ ?_
  · intro n t hI
    exact br_t hp_le96 (hJ t hI)
  · intro n i t hi hI ih
    refine br_f (hp_n96 hi) ⟨hp_4ne, ?_⟩
    rw [hp_div4 hi]
    refine br_c (fun h => ⟨pk_in (96 * w + i) 288 (by omega) (hp_ixF w i), ?_⟩) (fun h => br_t hp_m1neg (nm_r (nI_1 i) (ih _ (hp_lv_skip hI (fun z => absurd ((hp_shI t (by omega)).mpr (z.resolve_left id)) h)))))
    rw [pk_cl (96 * w + i) (hp_ixF w i)]
    have hb := (hp_shI t (by omega : i / 4 < 32)).mp h
    rcases ok.2.1 (96 * w + i) (by omega) with z | ⟨p, hp, e⟩
    · rw [z]
      exact br_t hp_m1neg (nm_r (nI_1 i) (ih _ (hp_lv_skip hI (fun _ => z))))
    · rw [e]
      refine br_f (nI_pos (by omega)) (nm_e (nm_r (nI_1 i) (ih _ (hp_lv_add hC hI hi hp (Or.inr hb) e (fun k => ?_)))))
      rw [hp_or_iff, hp_andn_iff, hp_one_iff (by omega)]
theorem ya_live55 {s b : Int32} (ok : hp_ok P F R) (hw : w < 3) (hs : hp_S s) (h : post (hp_clo F w s b)) : ∃ n, wY_live_55 post (nI w) b T K G F R A L n (s &&& (b ^^^ (-1))) (-1) := by
  refine loop_m (σ := Int32 × Int32) (fun n q => wY_live_55 post (nI w) b T K G F R A L n q.1 q.2) (fun q => (∀ i, bt s i = true → ¬ bt b i = true → bt q.1 i = true) ∧ (∀ i, bt q.1 i = true → bt (hp_clo F w s b) i = true) ∧ (q.2 = q.1 → ∀ a p, bt q.1 a = true → hp_E F w a p → p < 24 → ¬ bt b p = true → bt q.1 p = true)) (fun q => if q.2 = q.1 then 0 else 25 - hp_c q.1 24) ?_ (s &&& (b ^^^ (-1)), -1) ⟨fun i h1 h2 => hp_andn_iff.mpr ⟨h1, h2⟩, fun i h1 => hp_clo_start (hp_andn_iff.mp h1).1 (hp_andn_iff.mp h1).2, fun e => absurd e (hp_S_m1 (hp_S_and hs))⟩
  rintro n ⟨t, t0⟩ ⟨h1, h2, h3⟩ ih
  refine br_c (fun e => ?_) (fun ne => ya_live67 ok hw hs (fun t' hl => ih (t', t) ⟨fun i a b => hl.1 i (h1 i a b), hl.2.1, fun e a p ha he hp hb => ?_⟩ ?_) h2)
  · have : t = hp_clo F w s b := hp_clo_uniq h1 (h3 e) h2
    rw [← this] at h
    exact h
  · exact hp_lv_96 hl (Or.inr (by have e' : t = t' := e; rw [e']; exact ha)) he hp hb
  · show (if t = t' then 0 else 25 - hp_c t' 24) < (if t0 = t then 0 else 25 - hp_c t 24)
    have c1 := hp_c_le t 24
    have c2 := hp_c_le t' 24
    rw [if_neg ne]
    by_cases z : t = t'
    · rw [if_pos z]; omega
    · rw [if_neg z]
      have : hp_c t 24 < hp_c t' 24 := hp_grow (fun i hi => hp_clo_S hs i (hl.2.1 i hi)) hl.1 z
      omega
theorem ya_live {b : Int32} (ok : hp_ok P F R) (hw : w < 3) (h : post (hp_clo F w (hp_rts R w) b)) : wpY_live post (T, K, G, F, R, A, L) (nI w) b := by
  refine loop_0 (fun n i t => wY_live_5 post (nI w) b T K G F R A L n t (nI i)) (fun i t => hp_rI R w i t) 4 0 hp_rI_0 ?_ ?_
  · intro n t hI
    have e := hp_rI_4 hI
    rw [e]
    exact br_t hp_le4 (nm_e (ya_live55 ok hw (hp_rts_S R w) h))
  · intro n i t hi hI ih
    refine br_f (hp_n4 hi) ⟨pk_in (4 * w + i) 12 (by omega) (hp_ixR w i), nm_r (congrArg R (pk_cl (4 * w + i) (hp_ixR w i))) ?_⟩
    rcases ok.2.2.1 w i hw hi with z | ⟨p, hp, e, _⟩
    · rw [z]
      exact br_t hp_m1neg (nm_r (nI_1 i) (ih _ (hp_rI_skip hI z)))
    · rw [e]
      exact br_f (nI_pos (by omega)) (nm_e (nm_r (nI_1 i) (ih _ (hp_rI_add hI hp e))))
theorem ya_isAlive (ok : hp_ok P F R) (hw : w < 3) {x : Int32} (h0 : ¬ hp_in (hp_clo F w (hp_rts R w) 0) x → post 0) (h1 : hp_in (hp_clo F w (hp_rts R w) 0) x → post 1) : wpY_isAlive post (T, K, G, F, R, A, L) (nI w) x := by
  have bad : (x < 0 ∨ nI 24 ≤ x) → ¬ hp_in (hp_clo F w (hp_rts R w) 0) x := by
    rintro h ⟨j, hj, e, _⟩
    rw [e] at h
    rcases h with h | h
    · exact nI_pos (by omega) h
    · exact nI_ge hj (by decide) h
  unfold wpY_isAlive
  dsimp only
  rcases pk_ix x (n := 24) (by decide) with h | h | ⟨j, hj, e⟩
  · refine ya_out (n := 23) (by decide) (Or.inl h) ?_
    exact br_t rfl (h0 (bad (Or.inl h)))
  · refine ya_out (n := 23) (by decide) (Or.inr h) ?_
    exact br_t rfl (h0 (bad (Or.inr h)))
  · subst e
    refine ya_in (j := j) (n := 23) (by omega) (by decide) ?_
    refine br_f (by decide) (ya_live ok hw (br_c (fun h => h1 ?_) (fun h => h0 (fun z => h ?_))))
    · exact (hp_in_nI hj).mpr ((hp_shI _ (by omega)).mp h)
    · exact (hp_shI _ (by omega)).mpr ((hp_in_nI hj).mp z)
theorem ya_bits {s : Int32} (h : post (hp_cn s 24)) : wpY_bits post (T, K, G, F, R, A, L) s := by
  refine loop_0 (fun n i t => wY_bits_4 post s T K G F R A L n t (nI i)) (fun i t => t = hp_cn s i) 24 0 rfl ?_ ?_
  · intro n t e; cases e
    exact br_t hp_le24 h
  · intro n i t hi e ih; cases e
    exact br_f (hp_n24 hi) (nm_e (nm_r (nI_1 i) (ih _ rfl)))
theorem ya_sum (hw : w < 3) {s : Int32} (h : post (hp_sum G w s 24)) : wpY_sumOf post (T, K, G, F, R, A, L) (nI w) s := by
  refine loop_0 (fun n i t => wY_sumOf_5 post (nI w) s T K G F R A L n t (nI i)) (fun i t => t = hp_sum G w s i) 24 0 rfl ?_ ?_
  · intro n t e; cases e
    exact br_t hp_le24 h
  · intro n i t hi e ih; cases e
    refine br_f (hp_n24 hi) (br_c (fun hb => ⟨pk_in (24 * w + i) 72 (by omega) (hp_ixO w i), nm_r ?_ (nm_r (nI_1 i) (ih _ rfl))⟩) (fun hb => nm_r (nI_1 i) (ih _ (hp_sum_f (fun z => hb ((hp_shI s (by omega)).mpr z))).symm)))
    rw [hp_sum_t ((hp_shI s (by omega)).mp hb), pk_cl (24 * w + i) (hp_ixO w i)]
theorem ya_all (ok : hp_ok P F R) (hT : hp_T P T) (h : post (P 0)) : wpY_all post (T, K, G, F, R, A, L) := by
  have e24 : hp_mk (fun o => bt (P 0) o) 24 = P 0 := hp_ext fun i => by
    rw [hp_mk24]
    exact ⟨fun h => h.2, fun h => ⟨ok.1 0 (by omega) i h, h⟩⟩
  refine loop_0 (fun n i t => wY_all_4 post T K G F R A L n t (nI i)) (fun i t => t = hp_mk (fun o => bt (P 0) o) i) 24 0 rfl ?_ ?_
  · intro n t e; cases e
    rw [e24]
    exact br_t hp_le24 h
  · intro n i t hi e ih; cases e
    refine br_f (hp_n24 hi) ⟨vp_in_nI (by omega) (by decide), ?_⟩
    rw [nI_clamp (by omega : i < 2 ^ 31), hp_T0 hT hi]
    by_cases hb : bt (P 0) i = true
    · rw [if_pos hb]
      exact br_f (by decide) (nm_r (hp_mk_t (Q := fun o => bt (P 0) o) hb).symm (nm_r (nI_1 i) (ih _ rfl)))
    · rw [if_neg hb]
      exact br_t rfl (nm_r (nI_1 i) (ih _ (hp_mk_f hb).symm))
theorem ya_kind (hw : w < 3) {kd : Int32} (h : post (hp_mk (fun o => decide (kd = -1) || decide (K (24 * w + o) = kd)) 24)) : wpY_ofKind post (T, K, G, F, R, A, L) (nI w) kd := by
  refine loop_0 (fun n i t => wY_ofKind_5 post (nI w) kd T K G F R A L n t (nI i)) (fun i t => t = hp_mk (fun o => decide (kd = -1) || decide (K (24 * w + o) = kd)) i) 24 0 rfl ?_ ?_
  · intro n t e; cases e
    exact br_t hp_le24 h
  · intro n i t hi e ih; cases e
    refine br_f (hp_n24 hi) (br_c (fun e => nm_r (hp_mk_t (Q := fun o => decide (kd = -1) || decide (K (24 * w + o) = kd)) (by simp [e])).symm (nm_r (nI_1 i) (ih _ rfl))) (fun ne => ⟨pk_in (24 * w + i) 72 (by omega) (hp_ixO w i), ?_⟩))
    rw [pk_cl (24 * w + i) (hp_ixO w i)]
    exact br_c (fun e => nm_r (hp_mk_t (Q := fun o => decide (kd = -1) || decide (K (24 * w + o) = kd)) (by simp [e])).symm (nm_r (nI_1 i) (ih _ rfl))) (fun e => nm_r (nI_1 i) (ih _ (hp_mk_f (by simp [e, ne])).symm))
theorem ya_kept (ok : hp_ok P F R) (hw : w < 3) {o : Nat} (h : post (hp_lost F w (hp_rts R w) (hp_o o))) : wpY_kept post (T, K, G, F, R, A, L) (nI w) (nI o) :=
  ya_live ok hw (ya_live ok hw h)
end
