/-! depth and way: X's levels and sets against the reference's distances -/
section
variable {F R : Nat → Int32} {w : Nat} {Z s : Int32} {o : Nat}
theorem hp_depth (hs : hp_S s) (hZ : ∀ i, bt (hp_clo F w s 0) i = true → bt Z i = true) (al : bt (hp_clo F w s 0) o = true) :
    ∃ K, K ≤ 23 ∧ bt (hp_it F w s 0 K) o = true ∧ (∀ j, j < K → ¬ bt (hp_it F w s 0 j) o = true) ∧ (∃ p, bt s p = true ∧ hp_wk F w Z K p o) ∧ ∀ p j, bt s p = true → hp_wk F w Z j p o → K ≤ j := by
  rw [← hp_lev_23 hs] at al
  obtain ⟨K, h1, h2⟩ := pk_least (fun k => bt (hp_it F w s 0 k) o = true) ⟨23, al⟩
  have hK : K ≤ 23 := by
    rcases Nat.lt_or_ge 23 K with z | z
    · exact absurd al (h2 23 z)
    · exact z
  have lv := hp_lev_iff (F := F) (w := w) (Z := Z) (s := s) hZ hs
  have key : ∀ p j, bt s p = true → hp_wk F w Z j p o → K ≤ j := by
    intro p j hp hw
    rcases Nat.lt_or_ge j K with z | z
    · exact absurd ((lv j (by omega) o).mpr ⟨j, p, Nat.le_refl j, hp, hw⟩) (h2 j z)
    · exact z
  obtain ⟨j, p, hj, hp, hw⟩ := (lv K (by omega) o).mp h1
  have : j = K := by have := key p j hp hw; omega
  subst this
  exact ⟨j, hK, h1, h2, ⟨p, hp, hw⟩, key⟩
/-- the way, as X finds it -/
noncomputable def hp_pt (F R : Nat → Int32) (w : Nat) (Z : Int32) (o K : Nat) : Nat → Int32
  | 0 => hp_ls (hp_rts R w &&& hp_ct F w Z o K)
  | i + 1 => hp_ls (hp_suc F w ((1 : Int32) <<< (hp_pt F R w Z o K i &&& 31)) &&& hp_ct F w Z o (K - (i + 1)))
variable {A : Nat → Int32}
theorem hp_far_v (fr : hp_far F w Z o A) {a : Nat} (ha : a < 24) {j : Nat} (h : hp_wk F w Z j a o) : ∃ d, d ≤ 23 ∧ A a = nI d ∧ hp_wk F w Z d a o ∧ ∀ j, hp_wk F w Z j a o → d ≤ j := by
  rcases fr a ha with z | ⟨_, z⟩
  · exact z
  · exact absurd h (z j)
theorem hp_far_i (fr : hp_far F w Z o A) {a d : Nat} (ha : a < 24) (hd : d < 100) (e : A a = nI d) : d ≤ 23 ∧ hp_wk F w Z d a o ∧ ∀ j, hp_wk F w Z j a o → d ≤ j := by
  rcases fr a ha with ⟨d', h1, h2, h3, h4⟩ | ⟨h1, _⟩
  · rw [e] at h2
    have : d = d' := (nI_eq (by omega) (by omega)).mp h2
    subst this
    exact ⟨h1, h3, h4⟩
  · rw [e] at h1
    have : d = 100 := (nI_eq (by omega) (by omega)).mp h1
    omega
theorem hp_far_n (fr : hp_far F w Z o A) {a : Nat} (ha : a < 24) : ∃ d, d ≤ 100 ∧ A a = nI d := by
  rcases fr a ha with ⟨d, h1, h2, _⟩ | ⟨h1, _⟩
  · exact ⟨d, by omega, h2⟩
  · exact ⟨100, by omega, h1⟩
/-- the reference's best root after r roots -/
def hp_BI (R : Nat → Int32) (w : Nat) (A : Nat → Int32) (r : Nat) (x : Int32) : Prop :=
  (x = -1 ∧ ∀ r' p, r' < r → p < 24 → R (4 * w + r') = nI p → ¬ A p < 100) ∨
  ∃ a d, a < 24 ∧ x = nI a ∧ (∃ r', r' < r ∧ R (4 * w + r') = nI a) ∧ A a = nI d ∧ d < 100 ∧ ∀ r' p d', r' < r → p < 24 → R (4 * w + r') = nI p → A p = nI d' → d' < 100 → d < d' ∨ (d = d' ∧ a ≤ p)
theorem hp_BI_end (fr : hp_far F w Z o A) {K : Nat} (hZS : hp_S Z) (ho : o < 24) (hK : K ≤ 23) (h1 : ∃ p, bt (hp_rts R w) p = true ∧ hp_wk F w Z K p o) (h2 : ∀ p j, bt (hp_rts R w) p = true → hp_wk F w Z j p o → K ≤ j) {x : Int32} (h : hp_BI R w A 4 x) :
    ∃ a, a < 24 ∧ x = nI a ∧ bt (hp_rts R w) a = true ∧ A a = nI K ∧ hp_pt F R w Z o K 0 = nI a := by
  obtain ⟨p, hp, hw⟩ := h1
  obtain ⟨hp24, rp, hrp, erp⟩ := hp_rts_iff.mp hp
  obtain ⟨dp, q1, q2, q3, q4⟩ := hp_far_v fr hp24 hw
  have e1 : dp = K := by
    have := q4 K hw
    have := h2 p dp hp q3
    omega
  subst e1
  rcases h with ⟨_, h⟩ | ⟨a, d, ha, ex, ⟨r, hr, er⟩, ed, hd, hm⟩
  · refine absurd ?_ (h rp p hrp hp24 erp)
    rw [q2]
    exact nI_lt (b := 100) (by omega) (by decide)
  · have ra : bt (hp_rts R w) a = true := hp_rts_iff.mpr ⟨ha, r, hr, er⟩
    obtain ⟨f1, f2, f3⟩ := hp_far_i fr ha hd ed
    have k1 := h2 a d ra f2
    have k2 := hm rp p dp hrp hp24 erp q2 (by omega)
    have e2 : d = dp := by omega
    subst e2
    refine ⟨a, ha, ex, ra, ed, hp_ls_of ha (hp_and_iff.mpr ⟨ra, (hp_ct_iff hZS ho d a).mpr ⟨ha, f2⟩⟩) (fun i hi z => ?_)⟩
    obtain ⟨z1, z2⟩ := hp_and_iff.mp z
    obtain ⟨i24, ri, hri, eri⟩ := hp_rts_iff.mp z1
    obtain ⟨_, z3⟩ := (hp_ct_iff hZS ho d i).mp z2
    obtain ⟨di, g1, g2, g3, g4⟩ := hp_far_v fr i24 z3
    have := hm ri i di hri i24 eri g2 (by omega)
    have := g4 d z3
    omega
theorem hp_path_0 (fr : hp_far F w Z o A) {a : Nat} {x : Int32} (e : A a = nI 0) (h : hp_mn (fun p => hp_E F w a p ∧ A p + 1 = A a) x) : x = -1 := by
  rcases h with ⟨h, _⟩ | ⟨p, hp, _, ⟨_, h⟩, _⟩
  · exact h
  · obtain ⟨d, hd, ed⟩ := hp_far_n fr hp
    rw [e, ed, nI_1] at h
    have := (nI_eq (by omega) (by omega)).mp h
    omega
theorem hp_path_s (fr : hp_far F w Z o A) (hZS : hp_S Z) (ho : o < 24) {a e : Nat} {x : Int32} (ha : a < 24) (hz : bt Z a = true) (he : e ≤ 22) (ea : A a = nI (e + 1)) (h : hp_mn (fun p => hp_E F w a p ∧ A p + 1 = A a) x) :
    x = hp_ls (hp_suc F w (hp_o a) &&& hp_ct F w Z o e) ∧ ∃ p, p < 24 ∧ x = nI p ∧ hp_E F w a p ∧ A p = nI e := by
  obtain ⟨f1, f2, f3⟩ := hp_far_i fr ha (by omega) ea
  have one : ∀ p, p < 24 → hp_E F w a p → (A p + 1 = A a ↔ hp_wk F w Z e p o) := by
    intro p hp hE
    rw [ea]
    constructor
    · intro h1
      obtain ⟨d, hd, ed⟩ := hp_far_n fr hp
      rw [ed, nI_1] at h1
      have : d = e := by have := (nI_eq (by omega) (by omega)).mp h1; omega
      subst this
      exact (hp_far_i fr hp (by omega) ed).2.1
    · intro h1
      obtain ⟨d, g1, g2, g3, g4⟩ := hp_far_v fr hp h1
      have k1 := g4 e h1
      have k2 := f3 (d + 1) ⟨p, hp, hz, hE, g3⟩
      have : d = e := by omega
      subst this
      rw [g2, nI_1]
  have st : ∀ p, p < 24 → (bt (hp_suc F w (hp_o a) &&& hp_ct F w Z o e) p = true ↔ hp_E F w a p ∧ A p + 1 = A a) := by
    intro p hp
    rw [hp_and_iff, hp_suc_iff, hp_ct_iff hZS ho]
    constructor
    · rintro ⟨⟨_, b, hb, hE⟩, _, hw⟩
      rw [hp_one_iff (by omega)] at hb
      subst hb
      exact ⟨hE, (one p hp hE).mpr hw⟩
    · rintro ⟨hE, h1⟩
      exact ⟨⟨hp, a, (hp_one_iff (by omega)).mpr rfl, hE⟩, hp, (one p hp hE).mp h1⟩
  refine ⟨hp_mn_ls h st, ?_⟩
  rcases h with ⟨_, h⟩ | ⟨p, hp, ex, ⟨h1, h2⟩, _⟩
  · obtain ⟨c, hc, _, hE, hw⟩ := f2
    exact absurd ⟨hE, (one c hc hE).mpr hw⟩ (h c hc)
  · refine ⟨p, hp, ex, h1, ?_⟩
    obtain ⟨d, hd, ed⟩ := hp_far_n fr hp
    rw [ea, ed, nI_1] at h2
    have : d = e := by have := (nI_eq (by omega) (by omega)).mp h2; omega
    rw [ed, this]
end
