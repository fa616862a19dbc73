/-! ways: walks of k references, the levels from the roots, the sets that come to o, distances -/
section
variable {F R : Nat → Int32} {w : Nat} {Z : Int32}
/-- b is come to from a by k references, each of an object of Z -/
def hp_wk (F : Nat → Int32) (w : Nat) (Z : Int32) : Nat → Nat → Nat → Prop
  | 0, a, b => a = b
  | k + 1, a, b => ∃ c, c < 24 ∧ bt Z a = true ∧ hp_E F w a c ∧ hp_wk F w Z k c b
theorem hp_wk_snoc : ∀ {k a b c : Nat}, hp_wk F w Z k a b → bt Z b = true → hp_E F w b c → c < 24 → hp_wk F w Z (k + 1) a c
  | 0, a, b, c => fun h hb he hc => ⟨c, hc, h ▸ hb, h ▸ he, rfl⟩
  | k + 1, a, b, c => fun ⟨d, h1, h2, h3, h4⟩ hb he hc => ⟨d, h1, h2, h3, hp_wk_snoc h4 hb he hc⟩
theorem hp_wk_last : ∀ {k a b : Nat}, hp_wk F w Z (k + 1) a b → ∃ c, hp_wk F w Z k a c ∧ bt Z c = true ∧ hp_E F w c b ∧ b < 24
  | 0, a, b => fun ⟨d, h1, h2, h3, h4⟩ => by
    cases h4
    exact ⟨a, rfl, h2, h3, h1⟩
  | k + 1, a, b => fun ⟨d, h1, h2, h3, h4⟩ => by
    obtain ⟨c, h5, h6, h7, h8⟩ := hp_wk_last h4
    exact ⟨c, ⟨d, h1, h2, h3, h5⟩, h6, h7, h8⟩
noncomputable def hp_pre (F : Nat → Int32) (w : Nat) (Z s : Int32) : Int32 := hp_mk (fun a => hp_d (bt Z a = true ∧ ∃ p, p < 24 ∧ bt s p = true ∧ hp_E F w a p)) 24
theorem hp_pre_iff {s : Int32} {a : Nat} : bt (hp_pre F w Z s) a = true ↔ a < 24 ∧ bt Z a = true ∧ ∃ p, p < 24 ∧ bt s p = true ∧ hp_E F w a p := by
  unfold hp_pre
  rw [hp_mk24, hp_d_iff]
/-- those that come to o by exactly k references -/
noncomputable def hp_ct (F : Nat → Int32) (w : Nat) (Z : Int32) (o : Nat) : Nat → Int32
  | 0 => hp_o o
  | k + 1 => hp_pre F w Z (hp_ct F w Z o k)
theorem hp_ct_iff (hZ : hp_S Z) {o : Nat} (ho : o < 24) : ∀ k a, bt (hp_ct F w Z o k) a = true ↔ a < 24 ∧ hp_wk F w Z k a o
  | 0 => fun a => by
    show bt (hp_o o) a = true ↔ a < 24 ∧ a = o
    rw [hp_one_iff (by omega)]
    exact ⟨fun h => ⟨by omega, h⟩, fun h => h.2⟩
  | k + 1 => fun a => by
    show bt (hp_pre F w Z (hp_ct F w Z o k)) a = true ↔ a < 24 ∧ ∃ c, c < 24 ∧ bt Z a = true ∧ hp_E F w a c ∧ hp_wk F w Z k c o
    rw [hp_pre_iff]
    constructor
    · rintro ⟨h1, h2, p, h3, h4, h5⟩
      exact ⟨h1, p, h3, h2, h5, ((hp_ct_iff hZ ho k p).mp h4).2⟩
    · rintro ⟨h1, p, h3, h2, h5, h4⟩
      exact ⟨h1, h2, p, h3, (hp_ct_iff hZ ho k p).mpr ⟨h3, h4⟩, h5⟩
/-- those that come to o by at most k references -/
noncomputable def hp_bk (F : Nat → Int32) (w : Nat) (Z : Int32) (o : Nat) : Nat → Int32
  | 0 => hp_o o
  | k + 1 => hp_bk F w Z o k ||| hp_pre F w Z (hp_bk F w Z o k)
theorem hp_bk_iff {o : Nat} (ho : o < 24) : ∀ k a, bt (hp_bk F w Z o k) a = true ↔ a < 24 ∧ ∃ j, j ≤ k ∧ hp_wk F w Z j a o
  | 0 => fun a => by
    show bt (hp_o o) a = true ↔ _
    rw [hp_one_iff (by omega)]
    constructor
    · intro h; exact ⟨by omega, 0, Nat.le_refl 0, h⟩
    · rintro ⟨_, j, hj, h⟩
      cases Nat.le_zero.mp hj
      exact h
  | k + 1 => fun a => by
    show bt (hp_bk F w Z o k ||| hp_pre F w Z (hp_bk F w Z o k)) a = true ↔ _
    rw [hp_or_iff, hp_pre_iff, hp_bk_iff ho k a]
    constructor
    · rintro (⟨h1, j, h2, h3⟩ | ⟨h1, h2, p, h3, h4, h5⟩)
      · exact ⟨h1, j, by omega, h3⟩
      · obtain ⟨_, j, h6, h7⟩ := (hp_bk_iff ho k p).mp h4
        exact ⟨h1, j + 1, by omega, p, h3, h2, h5, h7⟩
    · rintro ⟨h1, j, h2, h3⟩
      cases j with
      | zero => exact Or.inl ⟨h1, 0, by omega, h3⟩
      | succ j =>
        obtain ⟨p, h4, h5, h6, h7⟩ := h3
        exact Or.inr ⟨h1, h5, p, h4, (hp_bk_iff ho k p).mpr ⟨h4, j, by omega, h7⟩, h6⟩
theorem hp_bk_S {o : Nat} (ho : o < 24) (k : Nat) : hp_S (hp_bk F w Z o k) := fun a h => ((hp_bk_iff ho k a).mp h).1
theorem hp_bk_inc (k i : Nat) {o : Nat} (h : bt (hp_bk F w Z o k) i = true) : bt (hp_bk F w Z o (k + 1)) i = true := by
  show bt (hp_bk F w Z o k ||| hp_pre F w Z (hp_bk F w Z o k)) i = true
  exact hp_or_iff.mpr (Or.inl h)
theorem hp_bk_stab (k : Nat) {o : Nat} (h : hp_bk F w Z o (k + 1) = hp_bk F w Z o k) : hp_bk F w Z o (k + 2) = hp_bk F w Z o (k + 1) := by
  show hp_bk F w Z o (k + 1) ||| hp_pre F w Z (hp_bk F w Z o (k + 1)) = hp_bk F w Z o k ||| hp_pre F w Z (hp_bk F w Z o k)
  rw [h]
/-- who comes to o at all comes by 23 references or less -/
theorem hp_wk_short {o : Nat} (ho : o < 24) {k a : Nat} (ha : a < 24) (h : hp_wk F w Z k a o) : ∃ j, j ≤ 23 ∧ hp_wk F w Z j a o := by
  have st := hp_pg23 (hp_bk F w Z o) (hp_bk_S ho) (fun k i => hp_bk_inc k i) (fun k => hp_bk_stab k) (hp_c_pos (s := hp_bk F w Z o 0) (a := o) ((hp_one_iff (by omega)).mpr rfl) ho)
  have h1 := (hp_bk_iff (F := F) (w := w) (Z := Z) ho k a).mpr ⟨ha, k, Nat.le_refl k, h⟩
  rcases Nat.le_total k 23 with l | l
  · exact ⟨k, l, h⟩
  · have := (hp_still (hp_bk F w Z o) (fun k => hp_bk_stab k) st (k - 23)).2
    rw [show 23 + (k - 23) = k by omega] at this
    rw [this] at h1
    exact ((hp_bk_iff ho 23 a).mp h1).2
/-- the levels from the roots by walks -/
theorem hp_lev_iff {s : Int32} (hZ : ∀ i, bt (hp_clo F w s 0) i = true → bt Z i = true) (hs : hp_S s) : ∀ k, k ≤ 24 → ∀ o, bt (hp_it F w s 0 k) o = true ↔ ∃ j p, j ≤ k ∧ bt s p = true ∧ hp_wk F w Z j p o
  | 0 => fun _ o => by
    show bt (s &&& (0 ^^^ (-1))) o = true ↔ _
    rw [hp_andn_iff]
    constructor
    · intro h; exact ⟨0, o, Nat.le_refl 0, h.1, rfl⟩
    · rintro ⟨j, p, hj, hp, h⟩
      cases Nat.le_zero.mp hj
      cases h
      exact ⟨hp, hp_0⟩
  | k + 1 => fun hk o => by
    have ih := hp_lev_iff hZ hs k (by omega)
    rw [hp_it_s, hp_or_iff, hp_andn_iff, hp_suc_iff, ih o]
    constructor
    · rintro (⟨j, p, h1, h2, h3⟩ | ⟨⟨h1, a, h2, h3⟩, _⟩)
      · exact ⟨j, p, by omega, h2, h3⟩
      · obtain ⟨j, p, h4, h5, h6⟩ := (ih a).mp h2
        refine ⟨j + 1, p, by omega, h5, hp_wk_snoc h6 (hZ a ?_) h3 h1⟩
        have := hp_it_mono h2 (24 - k)
        rw [show k + (24 - k) = 24 by omega] at this
        exact this
    · rintro ⟨j, p, h1, h2, h3⟩
      by_cases z : j ≤ k
      · exact Or.inl ⟨j, p, z, h2, h3⟩
      · obtain rfl : j = k + 1 := by omega
        obtain ⟨c, h4, h5, h6, h7⟩ := hp_wk_last h3
        exact Or.inr ⟨⟨h7, c, (ih c).mpr ⟨k, p, Nat.le_refl k, h2, h4⟩, h6⟩, hp_0⟩
/-- alive is found within 23 steps -/
theorem hp_lev_23 {s : Int32} (hs : hp_S s) : hp_it F w s 0 23 = hp_clo F w s 0 := by
  by_cases z : hp_c (hp_it F w s 0 0) 24 = 0
  · have e : hp_it F w s 0 0 = 0 := hp_ext fun i => ⟨fun y => absurd y (hp_c_zero 24 z i (hp_it_S hs 0 i y)), fun y => absurd y hp_0⟩
    have n : ∀ i, bt s i = true → ¬ bt 0 i = true → False := fun i h h' => by
      have : bt (hp_it F w s 0 0) i = true := hp_andn_iff.mpr ⟨h, h'⟩
      rw [e] at this
      exact hp_0 this
    exact hp_ext fun i => ⟨fun y => (hp_it_ind (fun _ => False) n (fun _ _ h _ _ _ => h) 23 i y).elim, fun y => (hp_clo_ind (fun _ => False) n (fun _ _ h _ _ _ => h) y).elim⟩
  · exact (hp_pg23 (hp_it F w s 0) (hp_it_S hs) (hp_it_inc F w s 0) (hp_it_stab F w s 0) (by omega)).symm
/-- what the reference's table of distances holds at its end -/
def hp_far (F : Nat → Int32) (w : Nat) (Z : Int32) (o : Nat) (A : Nat → Int32) : Prop :=
  ∀ a, a < 24 → (∃ d, d ≤ 23 ∧ A a = nI d ∧ hp_wk F w Z d a o ∧ ∀ j, hp_wk F w Z j a o → d ≤ j) ∨ (A a = nI 100 ∧ ∀ j, ¬ hp_wk F w Z j a o)
/-- and on its way there: n relaxations are done -/
def hp_bf (F : Nat → Int32) (w : Nat) (Z : Int32) (o n : Nat) (A : Nat → Int32) : Prop :=
  ∃ d : Nat → Nat, (∀ a, a < 24 → A a = nI (d a) ∧ d a ≤ 100 ∧ (d a < 100 → hp_wk F w Z (d a) a o) ∧ ∀ k, k ≤ n / 96 → hp_wk F w Z k a o → d a ≤ k) ∧
    ∀ m p, m < n % 96 → p < 24 → bt Z (m / 4) = true → F (96 * w + m) = nI p → hp_wk F w Z (n / 96) p o → d (m / 4) ≤ n / 96 + 1
theorem hp_bf_0 {o : Nat} {A : Nat → Int32} (h : ∀ a, a < 24 → A a = if a = o then nI 0 else nI 100) : hp_bf F w Z o 0 A := by
  refine ⟨fun a => if a = o then 0 else 100, fun a ha => ?_, fun m p hm => absurd hm (by omega)⟩
  have e := h a ha
  by_cases z : a = o
  · rw [if_pos z] at e
    simp only [if_pos z]
    exact ⟨e, by omega, fun _ => z, fun k _ _ => by omega⟩
  · rw [if_neg z] at e
    simp only [if_neg z]
    refine ⟨e, by omega, fun y => absurd y (by omega), fun k hk hw => ?_⟩
    obtain rfl : k = 0 := by omega
    exact absurd hw z
/-- the general step: the table falls, soundly, and the n-th field's relaxation holds -/
theorem hp_bf_gen {o n : Nat} {d d' : Nat → Nat} {A' : Nat → Int32} (h1 : ∀ a, a < 24 → A' a = nI (d' a) ∧ d' a ≤ d a ∧ (d' a < 100 → hp_wk F w Z (d' a) a o))
    (h2 : ∀ a, a < 24 → d a ≤ 100 ∧ ∀ k, k ≤ n / 96 → hp_wk F w Z k a o → d a ≤ k)
    (h3 : ∀ m p, m < n % 96 → p < 24 → bt Z (m / 4) = true → F (96 * w + m) = nI p → hp_wk F w Z (n / 96) p o → d (m / 4) ≤ n / 96 + 1)
    (h4 : ∀ p, p < 24 → bt Z (n % 96 / 4) = true → F (96 * w + n % 96) = nI p → d' (n % 96 / 4) ≤ d p + 1) : hp_bf F w Z o (n + 1) A' := by
  have c2 : ∀ m p, m < n % 96 + 1 → p < 24 → bt Z (m / 4) = true → F (96 * w + m) = nI p → hp_wk F w Z (n / 96) p o → d' (m / 4) ≤ n / 96 + 1 := by
    intro m p hm hp hz hf hw
    have hm4 : m / 4 < 24 := by omega
    by_cases z : m < n % 96
    · exact Nat.le_trans (h1 (m / 4) hm4).2.1 (h3 m p z hp hz hf hw)
    · obtain rfl : m = n % 96 := by omega
      have a1 := h4 p hp hz hf
      have a2 := (h2 p hp).2 (n / 96) (Nat.le_refl _) hw
      omega
  refine ⟨d', fun a ha => ⟨(h1 a ha).1, Nat.le_trans (h1 a ha).2.1 (h2 a ha).1, (h1 a ha).2.2, fun k hk hw => ?_⟩, fun m p hm hp hz hf hw => ?_⟩
  · by_cases z : k ≤ n / 96
    · exact Nat.le_trans (h1 a ha).2.1 ((h2 a ha).2 k z hw)
    · obtain rfl : k = n / 96 + 1 := by omega
      have hn : n % 96 + 1 = 96 := by omega
      obtain ⟨c, hc, hz, ⟨m, hm, e, hf⟩, hw2⟩ := hw
      have := c2 m c (by omega) hc (by rw [e]; exact hz) hf hw2
      rw [e] at this
      exact this
  · have e : (n + 1) / 96 = n / 96 := by omega
    rw [e] at hw ⊢
    exact c2 m p (by omega) hp hz hf hw
theorem hp_bf_skip {o n : Nat} {A : Nat → Int32} (h : hp_bf F w Z o n A) (hs : ∀ p, p < 24 → bt Z (n % 96 / 4) = true → F (96 * w + n % 96) = nI p → ¬ A p + 1 < A (n % 96 / 4)) : hp_bf F w Z o (n + 1) A := by
  obtain ⟨d, h1, h2⟩ := h
  refine hp_bf_gen (d := d) (d' := d) (fun a ha => ⟨(h1 a ha).1, Nat.le_refl _, (h1 a ha).2.2.1⟩) (fun a ha => ⟨(h1 a ha).2.1, (h1 a ha).2.2.2⟩) h2 (fun p hp hz hf => ?_)
  have g := hs p hp hz hf
  have a1 := h1 p hp
  have a2 := h1 (n % 96 / 4) (by omega)
  rw [a1.1, a2.1, nI_1, nI_ltI (by omega) (by omega)] at g
  omega
theorem hp_bf_relax {o n p : Nat} {A : Nat → Int32} (h : hp_bf F w Z o n A) (hp : p < 24) (hz : bt Z (n % 96 / 4) = true) (hf : F (96 * w + n % 96) = nI p) (hl : A p + 1 < A (n % 96 / 4)) : hp_bf F w Z o (n + 1) (upd A (n % 96 / 4) (A p + 1)) := by
  obtain ⟨d, h1, h2⟩ := h
  have hm : n % 96 / 4 < 24 := by omega
  have a1 := h1 p hp
  have a2 := h1 (n % 96 / 4) hm
  rw [a1.1, a2.1, nI_1, nI_ltI (by omega) (by omega)] at hl
  refine hp_bf_gen (d := d) (d' := fun a => if a = n % 96 / 4 then d p + 1 else d a) (fun a ha => ?_) (fun a ha => ⟨(h1 a ha).2.1, (h1 a ha).2.2.2⟩) h2 (fun q hq hz' hf' => ?_)
  · by_cases z : a = n % 96 / 4
    · subst z
      simp only [if_pos]
      refine ⟨by rw [pk_us, a1.1, nI_1], by omega, fun _ => ⟨p, hp, hz, ⟨n % 96, by omega, rfl, hf⟩, a1.2.2.1 (by omega)⟩⟩
    · simp only [if_neg z]
      exact ⟨by rw [pk_un z]; exact (h1 a ha).1, Nat.le_refl _, (h1 a ha).2.2.1⟩
  · simp only [if_pos]
    have : p = q := hp_nI_inj hp hq (hf.symm.trans hf')
    rw [this]
    exact Nat.le_refl _
theorem hp_bf_end {o : Nat} (ho : o < 24) {A : Nat → Int32} (h : hp_bf F w Z o 2304 A) : hp_far F w Z o A := by
  obtain ⟨d, h1, _⟩ := h
  intro a ha
  obtain ⟨e, b, s, c⟩ := h1 a ha
  by_cases z : d a < 100
  · obtain ⟨j, hj, hw⟩ := hp_wk_short ho ha (s z)
    have := c j (by omega) hw
    refine Or.inl ⟨d a, by omega, e, s z, fun k hk => ?_⟩
    by_cases y : k ≤ 24
    · exact c k (by omega) hk
    · omega
  · have e100 : d a = 100 := by omega
    refine Or.inr ⟨by rw [e, e100], fun j hj => ?_⟩
    obtain ⟨k, hk, hw⟩ := hp_wk_short ho ha hj
    have := c k (by omega) hw
    omega
end
