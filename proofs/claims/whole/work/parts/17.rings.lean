/-! holders, rings, greatestRing -/
section
variable {P T K G F R A L : Nat → Int32} {w o : Nat}
def hp_pI (F : Nat → Int32) (w : Nat) (Z s : Int32) (n : Nat) (t : Int32) : Prop :=
  ∀ a, bt t a = true ↔ a < 24 ∧ bt Z a = true ∧ ∃ m, m < n ∧ m / 4 = a ∧ ∃ p, p < 24 ∧ bt s p = true ∧ F (96 * w + m) = nI p
theorem hp_pI_0 {Z s : Int32} : hp_pI F w Z s 0 0 := fun a =>
  ⟨fun h => absurd h hp_0, fun ⟨_, _, m, hm, _⟩ => absurd hm (by omega)⟩
theorem hp_pI_skip {Z s t : Int32} {n : Nat} (h : hp_pI F w Z s n t) (hs : bt Z (n / 4) = true → ∀ p, p < 24 → bt s p = true → ¬ F (96 * w + n) = nI p) : hp_pI F w Z s (n + 1) t := fun a => by
  rw [h a]
  constructor
  · rintro ⟨h1, h2, m, h3, h4, p, h5, h6, h7⟩
    exact ⟨h1, h2, m, by omega, h4, p, h5, h6, h7⟩
  · rintro ⟨h1, h2, m, h3, h4, p, h5, h6, h7⟩
    by_cases z : m = n
    · subst z
      exact absurd h7 (hs (by rw [h4]; exact h2) p h5 h6)
    · exact ⟨h1, h2, m, by omega, h4, p, h5, h6, h7⟩
theorem hp_pI_add {Z s t : Int32} {n q : Nat} (h : hp_pI F w Z s n t) (hn : n / 4 < 24) (hz : bt Z (n / 4) = true) (hq : q < 24) (hs : bt s q = true) (hf : F (96 * w + n) = nI q) : hp_pI F w Z s (n + 1) (t ||| hp_o (n / 4)) := fun a => by
  rw [hp_or_one (by omega), h a]
  constructor
  · rintro (⟨h1, h2, m, h3, h4, p, h5, h6, h7⟩ | e)
    · exact ⟨h1, h2, m, by omega, h4, p, h5, h6, h7⟩
    · subst e
      exact ⟨hn, hz, n, by omega, rfl, q, hq, hs, hf⟩
  · rintro ⟨h1, h2, m, h3, h4, p, h5, h6, h7⟩
    by_cases z : m = n
    · subst z
      exact Or.inr h4.symm
    · exact Or.inl ⟨h1, h2, m, by omega, h4, p, h5, h6, h7⟩
theorem hp_pI_96 {Z s t : Int32} (h : hp_pI F w Z s 96 t) : t = hp_pre F w Z s := hp_ext fun a => by
  rw [h a, hp_pre_iff]
  constructor
  · rintro ⟨h1, h2, m, h3, h4, p, h5, h6, h7⟩
    exact ⟨h1, h2, p, h5, h6, m, h3, h4, h7⟩
  · rintro ⟨h1, h2, p, h5, h6, m, h3, h4, h7⟩
    exact ⟨h1, h2, m, h3, h4, p, h5, h6, h7⟩
theorem xa_pre15 {post : Int32 → Prop} (ok : hp_ok P F R) (hw : w < 3) {s : Int32} (ho : o < 24) {J : Int32 → Int32 → Prop} (hJ : ∀ t, hp_pI F w (P w) s (4 * (o + 1)) t → J t (nI (o + 1))) {t : Int32} (h : hp_pI F w (P w) s (4 * o) t) : ∃ n, wX_referringTo_15 post J (nI w) s (nI o) P K G F R n t 0 := by
  refine loop_0 (fun n i t => wX_referringTo_15 post J (nI w) s (nI o) P K G F R n t (nI i)) (fun i t => hp_pI F w (P w) s (4 * o + i) t) 4 t h ?_ ?_
  · intro n t hI
    exact br_t hp_le4 (nm_r (nI_1 o) (hJ t hI))
  · intro n i t hi hI ih
    have m4 : (4 * o + i) / 4 = o := by omega
    refine br_f (hp_n4 hi) ⟨pk_in (96 * w + (4 * o + i)) 288 (by omega) (hp_ixf w o i), nm_r (congrArg F (pk_cl (96 * w + (4 * o + i)) (hp_ixf w o i))) (xa_ifG (fun n => nm_r (nI_1 i) (ih _ (hp_pI_skip hI (fun _ p hp hs e => n ⟨p, hp, e, hs⟩)))) (fun hin => ⟨vp_in_nI hw (by decide), ?_⟩))⟩
    obtain ⟨p, hp, e, hs⟩ := hin
    rw [nI_clamp (by omega : w < 2 ^ 31)]
    refine xa_if ho (fun b => nm_r (nI_1 i) (ih _ (hp_pI_skip hI (fun z => absurd (m4 ▸ z) b)))) (fun b => nm_e (nm_r (nI_1 i) (ih _ ?_)))
    have := hp_pI_add hI (by omega) (by rw [m4]; exact b) hp hs e
    rw [m4] at this
    exact this
theorem xa_pre {post : Int32 → Prop} (ok : hp_ok P F R) (hw : w < 3) {s : Int32} (h : post (hp_pre F w (P w) s)) : wpX_referringTo post (P, K, G, F, R) (nI w) s := by
  refine loop_0 (fun n i t => wX_referringTo_5 post (nI w) s P K G F R n t (nI i)) (fun i t => hp_pI F w (P w) s (4 * i) t) 24 0 hp_pI_0 ?_ ?_
  · intro n t hI
    rw [← hp_pI_96 hI] at h
    exact br_t hp_le24 h
  · intro n i t hi hI ih
    exact br_f (hp_n24 hi) (xa_pre15 ok hw hi (fun t ht => ih t ht) hI)
theorem ya_holds {post : Int32 → Prop} (hw : w < 3) {a : Nat} (ha : a < 24) (h0 : ¬ hp_E F w a o → post 0) (h1 : hp_E F w a o → post 1) : wpY_holds post (T, K, G, F, R, A, L) (nI w) (nI a) (nI o) := by
  refine loop_0 (fun n i (_ : Unit) => wY_holds_3 post (nI w) (nI a) (nI o) T K G F R A L n (nI i)) (fun i _ => ∀ f, f < i → ¬ F (96 * w + (4 * a + f)) = nI o) 4 () (fun f hf => absurd hf (by omega)) ?_ ?_
  · intro n _ hI
    refine br_t hp_le4 (h0 ?_)
    rintro ⟨m, hm, e, hf⟩
    refine hI (m - 4 * a) (by omega) ?_
    rw [show 4 * a + (m - 4 * a) = m by omega]
    exact hf
  · intro n i _ hi hI ih
    refine br_f (hp_n4 hi) ⟨pk_in (96 * w + (4 * a + i)) 288 (by omega) (hp_ixG w a i), ?_⟩
    rw [pk_cl (96 * w + (4 * a + i)) (hp_ixG w a i)]
    refine br_c (fun e => h1 ⟨4 * a + i, by omega, by omega, e⟩) (fun ne => nm_r (nI_1 i) (ih () (fun f hf => ?_)))
    by_cases z : f = i
    · rw [z]; exact ne
    · exact hI f (by omega)
theorem i_vc_holders {k : Nat} {u : SX} {v : SY} (I : i_Rel k u v) (hk : k + 4 ≤ 2048) (v1 : Int32) (v2 : Int32) : wpX_holders (fun r => wpY_holders (fun r' => r' = r ∧ i_Rel (k + 4) u v) v v1 v2) u v1 v2 := by
  have J := I
  obtain ⟨P, K, G, F, R, T, A, L, rfl, rfl, ok, hT⟩ := I
  unfold wpX_holders wpY_holders
  dsimp only
  rcases hp_place v1 with ⟨w, hw, rfl⟩ | bad
  · refine xa_plT hw (xa_alive ok hw (xa_ifG (fun n => ya_plT hw (ya_isAlive ok hw (fun _ => br_t rfl ⟨rfl, J⟩) (fun h => absurd h n))) (fun h => ?_)))
    have h' := h
    obtain ⟨o, ho, rfl, hb⟩ := h'
    have hY : ∀ post : Int32 → Prop, post (hp_cn ((hp_pre F w (P w) (hp_o o) &&& hp_clo F w (hp_rts R w) 0) &&& (hp_o o ^^^ (-1))) 24) → ∃ n, wY_holders_27 post (nI w) (nI o) T K G F R A L n 0 0 := by
      intro post h
      have bits : ∀ a, a < 24 → (bt ((hp_pre F w (P w) (hp_o o) &&& hp_clo F w (hp_rts R w) 0) &&& (hp_o o ^^^ (-1))) a = true ↔ ¬ a = o ∧ bt (hp_clo F w (hp_rts R w) 0) a = true ∧ hp_E F w a o) := by
        intro a ha
        rw [hp_andn_iff, hp_and_iff, hp_pre_iff, hp_one_iff (by omega)]
        constructor
        · rintro ⟨⟨⟨_, _, p, hp, h2, h3⟩, h4⟩, h5⟩
          rw [hp_one_iff (by omega)] at h2
          exact ⟨h5, h4, h2 ▸ h3⟩
        · rintro ⟨h5, h4, h3⟩
          exact ⟨⟨⟨ha, hp_alive ok hw h4, o, ho, (hp_one_iff (by omega)).mpr rfl, h3⟩, h4⟩, h5⟩
      generalize (hp_pre F w (P w) (hp_o o) &&& hp_clo F w (hp_rts R w) 0) &&& (hp_o o ^^^ (-1)) = S at h bits
      refine loop_0 (fun n i t => wY_holders_27 post (nI w) (nI o) T K G F R A L n t (nI i)) (fun i t => t = hp_cn S i) 24 0 rfl ?_ ?_
      · intro n t e; cases e
        exact br_t hp_le24 h
      · intro n i t hi e ih; cases e
        have no : ¬ bt S i = true → hp_cn S i = hp_cn S (i + 1) := fun z => by rw [hp_cn_s (by omega), if_neg z, Int32.add_zero]
        refine br_f (hp_n24 hi) (br_c (fun e => nm_r (nI_1 i) (ih _ (no (fun z => ((bits i hi).mp z).1 (hp_nI_inj hi ho e))))) (fun ne => ya_isAlive ok hw (fun z => br_t rfl (nm_r (nI_1 i) (ih _ (no (fun y => z ((hp_in_nI hi).mpr ((bits i hi).mp y).2.1)))))) (fun z => br_f (by decide) (ya_holds hw hi (fun q => br_t rfl (nm_r (nI_1 i) (ih _ (no (fun y => q ((bits i hi).mp y).2.2))))) (fun q => br_f (by decide) (nm_r (e' := hp_cn S (i + 1)) ?_ (nm_r (nI_1 i) (ih _ rfl))))))))
        have : bt S i = true := (bits i hi).mpr ⟨fun e => ne (by rw [e]), (hp_in_nI hi).mp z, q⟩
        rw [hp_cn_s (by omega), if_pos this]
    exact xa_pre ok hw (nm_e (xa_count (ya_plT hw (ya_isAlive ok hw (fun n => absurd h n) (fun _ => br_f (by decide) (hY _ ⟨rfl, J⟩))))))
  · exact xa_plF bad (ya_plF bad ⟨rfl, J⟩)
/-! rings -/
theorem xa_after {post : Int32 → Prop} (ok : hp_ok P F R) (hw : w < 3) (h : post (hp_af F w o)) : wpX_allAfter post (P, K, G, F, R) (nI w) (nI o) :=
  xa_rtb ok hw (xa_spread ok hw h)
theorem xa_ring {post : Int32 → Prop} (ok : hp_ok P F R) (hw : w < 3) (ho : o < 24) (h : post (hp_ring F w o)) : wpX_ringOf post (P, K, G, F, R) (nI w) (nI o) := by
  refine xa_after ok hw ?_
  refine loop_0 (fun n i t => wX_ringOf_13 post (nI w) (nI o) (hp_af F w o) P K G F R n t (nI i)) (fun i t => t = hp_mk (fun p => bt (hp_af F w o) p && bt (hp_af F w p) o) i) 24 0 rfl ?_ ?_
  · intro n t e; cases e
    exact br_t hp_le24 h
  · intro n i t hi e ih; cases e
    refine br_f (hp_n24 hi) (xa_if hi (fun b => nm_r (nI_1 i) (ih _ (hp_mk_f ?_).symm)) (fun b => xa_after ok hw (xa_if ho (fun c => nm_r (nI_1 i) (ih _ (hp_mk_f ?_).symm)) (fun c => nm_r (hp_mk_t (Q := fun p => bt (hp_af F w o) p && bt (hp_af F w p) o) ?_).symm (nm_r (nI_1 i) (ih _ rfl))))))
    · simp [b]
    · simp [c]
    · simp [b, c]
theorem ya_comes17 {post : Int32 → Prop} (ok : hp_ok P F R) (hw : w < 3) (ho : o < 24) {t0 : Int32} {J : Int32 → Int32 → Prop} (hJ : ∀ t, hp_lv F w (fun a => a = o) 0 (hp_af F w o) t0 96 t → J t t0) (h0 : ∀ i, bt t0 i = true → bt (hp_af F w o) i = true) : ∃ n, wY_comesTo_17 post J (nI w) (nI o) t0 T K G F R A L n t0 0 := by
  have hC : ∀ a p, (a = o ∨ bt (hp_af F w o) a = true) → hp_E F w a p → p < 24 → ¬ bt 0 p = true → bt (hp_af F w o) p = true := fun a p h he hp _ => h.elim (fun e => hp_af_one ho hp (e ▸ he)) (fun h => hp_af_step h hp he)
  refine loop_0 (fun n i t => wY_comesTo_17 post J (nI w) (nI o) t0 T K G F R A L n t (nI i)) (fun i t => hp_lv F w (fun a => a = o) 0 (hp_af F w o) t0 i t) 96 t0 (hp_lv_0 h0) ?_ ?_
  · intro n t hI
    exact br_t hp_le96 (hJ t hI)
  · intro n i t hi hI ih
    have go : (i / 4 = o ∨ bt t (i / 4) = true) → wY_comesTo_44 post J (wY_comesTo_17 post J (nI w) (nI o) t0 T K G F R A L n) (nI w) (nI o) t t0 (nI i) T K G F R A L := by
      intro hb
      refine ⟨pk_in (96 * w + i) 288 (by omega) (hp_ixF w i), ?_⟩
      rw [pk_cl (96 * w + i) (hp_ixF w i)]
      rcases ok.2.1 (96 * w + i) (by omega) with z | ⟨p, hp, e⟩
      · rw [z]
        exact br_t hp_m1neg (nm_r (nI_1 i) (ih _ (hp_lv_skip hI (fun _ => z))))
      · rw [e]
        refine br_f (nI_pos (by omega)) (nm_e (nm_r (nI_1 i) (ih _ (hp_lv_add hC hI hi hp hb e (fun k => ?_)))))
        rw [hp_or_one (by omega)]
        exact ⟨fun h => h.imp id (fun e => ⟨e, hp_0⟩), fun h => h.imp id (fun e => e.1)⟩
    refine br_f (hp_n96 hi) ⟨hp_4ne, ?_⟩
    rw [hp_div4 hi]
    refine br_c (fun e => go (Or.inl (hp_nI_inj (by omega) ho e))) (fun ne => ⟨hp_4ne, br_c (fun b => go (Or.inr ((hp_shI t (by omega)).mp b))) (fun b => br_t hp_m1neg (nm_r (nI_1 i) (ih _ (hp_lv_skip hI (fun z => ?_)))))⟩)
    rcases z with z | z
    · exact absurd (by rw [z]) ne
    · exact absurd ((hp_shI t (by omega)).mpr z) b
theorem ya_comes {post : Int32 → Prop} (ok : hp_ok P F R) (hw : w < 3) (ho : o < 24) (h : post (hp_af F w o)) : wpY_comesTo post (T, K, G, F, R, A, L) (nI w) (nI o) := by
  refine loop_m (σ := Int32 × Int32) (fun n q => wY_comesTo_5 post (nI w) (nI o) T K G F R A L n q.1 q.2) (fun q => (∀ i, bt q.1 i = true → bt (hp_af F w o) i = true) ∧ (q.2 = q.1 → ∀ a p, (a = o ∨ bt q.1 a = true) → hp_E F w a p → p < 24 → bt q.1 p = true)) (fun q => if q.2 = q.1 then 0 else 25 - hp_c q.1 24) ?_ (0, -1) ⟨fun i h1 => absurd h1 hp_0, fun e => absurd e (hp_S_m1 hp_S_0)⟩
  rintro n ⟨t, t0⟩ ⟨h2, h3⟩ ih
  refine br_c (fun e => ?_) (fun ne => ya_comes17 ok hw ho (fun t' hl => ih (t', t) ⟨hl.2.1, fun e a p ha he hp => ?_⟩ ?_) h2)
  · have : t = hp_af F w o := by
      refine hp_clo_uniq (fun i h1 _ => ?_) (fun a p ha he hp _ => h3 e a p (Or.inr ha) he hp) h2
      obtain ⟨h4, a, h5, h6⟩ := hp_suc_iff.mp h1
      exact h3 e a i (Or.inl ((hp_one_iff (by omega)).mp h5)) h6 h4
    rw [← this] at h
    exact h
  · have e' : t = t' := e
    refine hp_lv_96 hl (ha.imp id (fun z => ?_)) he hp hp_0
    rw [e']; exact z
  · show (if t = t' then 0 else 25 - hp_c t' 24) < (if t0 = t then 0 else 25 - hp_c t 24)
    have c1 := hp_c_le t 24
    have c2 := hp_c_le t' 24
    rw [if_neg ne]
    by_cases z : t = t'
    · rw [if_pos z]; omega
    · rw [if_neg z]
      have : hp_c t 24 < hp_c t' 24 := hp_grow (fun i hi => hp_af_S F w o i (hl.2.1 i hi)) hl.1 z
      omega
theorem ya_ring {post : Int32 → Prop} (ok : hp_ok P F R) (hw : w < 3) (ho : o < 24) (h : post (hp_ring F w o)) : wpY_ringOf post (T, K, G, F, R, A, L) (nI w) (nI o) := by
  refine ya_comes ok hw ho (br_c (fun z => ?_) (fun z => ?_))
  · rw [hp_ring_none ho (by rw [(hp_sh0 _ (by omega)).mp z]; decide)] at h
    exact h
  · refine loop_0 (fun n i t => wY_ringOf_24 post (nI w) (nI o) (hp_af F w o) T K G F R A L n t (nI i)) (fun i t => t = hp_mk (fun p => bt (hp_af F w o) p && bt (hp_af F w p) o) i) 24 0 rfl ?_ ?_
    · intro n t e; cases e
      exact br_t hp_le24 h
    · intro n i t hi e ih; cases e
      refine br_f (hp_n24 hi) (br_c (fun b => ya_comes ok hw hi (br_c (fun c => ?_) (fun c => ?_))) (fun b => ?_))
      · exact br_f (by decide) (nm_r (hp_mk_t (Q := fun p => bt (hp_af F w o) p && bt (hp_af F w p) o) (by rw [(hp_shI _ (by omega)).mp b, (hp_shI _ (by omega)).mp c]; rfl)).symm (nm_r (nI_1 i) (ih _ rfl)))
      · refine br_t rfl (nm_r (nI_1 i) (ih _ (hp_mk_f (fun y => c ?_)).symm))
        rw [Bool.and_eq_true] at y
        exact (hp_shI _ (by omega)).mpr y.2
      · refine br_t rfl (nm_r (nI_1 i) (ih _ (hp_mk_f (fun y => b ?_)).symm))
        rw [Bool.and_eq_true] at y
        exact (hp_shI _ (by omega)).mpr y.1
end
