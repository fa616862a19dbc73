/-! what the loops over fields and roots keep -/
section
variable {F R : Nat → Int32} {w : Nat}
theorem hp_E_lt {a p : Nat} (h : hp_E F w a p) : a < 24 := by
  obtain ⟨m, hm, e, _⟩ := h
  omega
/-- n fields seen: the base u and what members of s refer to -/
def hp_sI (F : Nat → Int32) (w : Nat) (s u : Int32) (n : Nat) (t : Int32) : Prop :=
  ∀ p, bt t p = true ↔ bt u p = true ∨ (p < 24 ∧ ∃ m, m < n ∧ bt s (m / 4) = true ∧ F (96 * w + m) = nI p)
theorem hp_sI_0 {s u : Int32} : hp_sI F w s u 0 u := fun p =>
  ⟨Or.inl, fun h => h.elim id (fun ⟨_, m, hm, _⟩ => absurd hm (by omega))⟩
theorem hp_sI_skip {s u t : Int32} {n : Nat} (h : hp_sI F w s u n t) (hs : bt s (n / 4) = true → F (96 * w + n) = -1) : hp_sI F w s u (n + 1) t := fun p => by
  rw [h p]
  constructor
  · rintro (h1 | ⟨h1, m, h2, h3, h4⟩)
    · exact Or.inl h1
    · exact Or.inr ⟨h1, m, by omega, h3, h4⟩
  · rintro (h1 | ⟨h1, m, h2, h3, h4⟩)
    · exact Or.inl h1
    · by_cases z : m = n
      · subst z
        rw [hs h3] at h4
        exact absurd h4.symm (hp_nI_ne (by omega))
      · exact Or.inr ⟨h1, m, by omega, h3, h4⟩
theorem hp_sI_add {s u t : Int32} {n q : Nat} (h : hp_sI F w s u n t) (hq : q < 24) (hs : bt s (n / 4) = true) (hf : F (96 * w + n) = nI q) : hp_sI F w s u (n + 1) (t ||| hp_o q) := fun p => by
  rw [hp_or_one (by omega), h p]
  constructor
  · rintro ((h1 | ⟨h1, m, h2, h3, h4⟩) | h1)
    · exact Or.inl h1
    · exact Or.inr ⟨h1, m, by omega, h3, h4⟩
    · exact Or.inr ⟨by omega, n, by omega, hs, by rw [hf, h1]⟩
  · rintro (h1 | ⟨h1, m, h2, h3, h4⟩)
    · exact Or.inl (Or.inl h1)
    · by_cases z : m = n
      · subst z
        rw [hf] at h4
        exact Or.inr (hp_nI_inj hq h1 h4).symm
      · exact Or.inl (Or.inr ⟨h1, m, by omega, h3, h4⟩)
theorem hp_sI_96 {s u t : Int32} (h : hp_sI F w s u 96 t) : t = u ||| hp_suc F w s := hp_ext fun p => by
  rw [h p, hp_or_iff, hp_suc_iff]
  constructor
  · rintro (h1 | ⟨h1, m, h2, h3, h4⟩)
    · exact Or.inl h1
    · exact Or.inr ⟨h1, m / 4, h3, m, h2, rfl, h4⟩
  · rintro (h1 | ⟨h1, a, h2, m, h3, h4, h5⟩)
    · exact Or.inl h1
    · exact Or.inr ⟨h1, m, h3, by rw [h4]; exact h2, h5⟩
theorem hp_or_0 (s : Int32) : 0 ||| s = s := hp_ext fun i => by
  rw [hp_or_iff]
  exact ⟨fun h => h.elim (fun z => absurd z hp_0) id, Or.inr⟩
/-- n roots seen -/
def hp_rI (R : Nat → Int32) (w : Nat) (n : Nat) (t : Int32) : Prop :=
  ∀ p, bt t p = true ↔ p < 24 ∧ ∃ r, r < n ∧ R (4 * w + r) = nI p
theorem hp_rI_0 : hp_rI R w 0 0 := fun p =>
  ⟨fun h => absurd h hp_0, fun ⟨_, m, hm, _⟩ => absurd hm (by omega)⟩
theorem hp_rI_skip {t : Int32} {n : Nat} (h : hp_rI R w n t) (hs : R (4 * w + n) = -1) : hp_rI R w (n + 1) t := fun p => by
  rw [h p]
  constructor
  · rintro ⟨h1, m, h2, h4⟩
    exact ⟨h1, m, by omega, h4⟩
  · rintro ⟨h1, m, h2, h4⟩
    by_cases z : m = n
    · subst z
      rw [hs] at h4
      exact absurd h4.symm (hp_nI_ne (by omega))
    · exact ⟨h1, m, by omega, h4⟩
theorem hp_rI_add {t : Int32} {n q : Nat} (h : hp_rI R w n t) (hq : q < 24) (hf : R (4 * w + n) = nI q) : hp_rI R w (n + 1) (t ||| hp_o q) := fun p => by
  rw [hp_or_one (by omega), h p]
  constructor
  · rintro (⟨h1, m, h2, h4⟩ | h1)
    · exact ⟨h1, m, by omega, h4⟩
    · exact ⟨by omega, n, by omega, by rw [hf, h1]⟩
  · rintro ⟨h1, m, h2, h4⟩
    by_cases z : m = n
    · subst z
      rw [hf] at h4
      exact Or.inr (hp_nI_inj hq h1 h4).symm
    · exact Or.inl ⟨h1, m, by omega, h4⟩
theorem hp_rI_4 {t : Int32} (h : hp_rI R w 4 t) : t = hp_rts R w := hp_ext fun p => by rw [h p, hp_rts_iff]
/-- the reference's search, within C: from t0, n fields seen -/
def hp_lv (F : Nat → Int32) (w : Nat) (c : Nat → Prop) (b C t0 : Int32) (n : Nat) (t : Int32) : Prop :=
  (∀ i, bt t0 i = true → bt t i = true) ∧ (∀ i, bt t i = true → bt C i = true) ∧ ∀ m p, m < n → p < 24 → (c (m / 4) ∨ bt t0 (m / 4) = true) → F (96 * w + m) = nI p → ¬ bt b p = true → bt t p = true
theorem hp_lv_0 {c : Nat → Prop} {b C t : Int32} (h : ∀ i, bt t i = true → bt C i = true) : hp_lv F w c b C t 0 t := ⟨fun _ h => h, h, fun m _ hm => absurd hm (by omega)⟩
theorem hp_lv_skip {c : Nat → Prop} {b C t0 t : Int32} {n : Nat} (h : hp_lv F w c b C t0 n t) (hs : (c (n / 4) ∨ bt t (n / 4) = true) → F (96 * w + n) = -1) : hp_lv F w c b C t0 (n + 1) t := by
  refine ⟨h.1, h.2.1, fun m p hm hp h1 h2 h3 => ?_⟩
  by_cases z : m = n
  · subst z
    rw [hs (h1.imp id (h.1 _))] at h2
    exact absurd h2.symm (hp_nI_ne (by omega))
  · exact h.2.2 m p (by omega) hp h1 h2 h3
theorem hp_lv_add {c : Nat → Prop} {b C t0 t t' : Int32} {n q : Nat} (hC : ∀ a p, (c a ∨ bt C a = true) → hp_E F w a p → p < 24 → ¬ bt b p = true → bt C p = true) (h : hp_lv F w c b C t0 n t) (hn : n < 96) (hq : q < 24) (hs : c (n / 4) ∨ bt t (n / 4) = true) (hf : F (96 * w + n) = nI q) (ht : ∀ i, bt t' i = true ↔ bt t i = true ∨ (i = q ∧ ¬ bt b i = true)) : hp_lv F w c b C t0 (n + 1) t' := by
  refine ⟨fun i hi => (ht i).mpr (Or.inl (h.1 i hi)), fun i hi => ?_, fun m p hm hp h1 h2 h3 => ?_⟩
  · rcases (ht i).mp hi with h1 | ⟨h1, h2⟩
    · exact h.2.1 i h1
    · subst h1
      exact hC (n / 4) i (hs.imp id (h.2.1 _)) ⟨n, hn, rfl, hf⟩ hq h2
  · by_cases z : m = n
    · subst z
      rw [hf] at h2
      have := hp_nI_inj hq hp h2
      subst this
      exact (ht q).mpr (Or.inr ⟨rfl, h3⟩)
    · exact (ht p).mpr (Or.inl (h.2.2 m p (by omega) hp h1 h2 h3))
theorem hp_lv_96 {c : Nat → Prop} {b C t0 t : Int32} (h : hp_lv F w c b C t0 96 t) {a p : Nat} (ha : c a ∨ bt t0 a = true) (he : hp_E F w a p) (hp : p < 24) (hb : ¬ bt b p = true) : bt t p = true := by
  obtain ⟨m, hm, e, hf⟩ := he
  exact h.2.2 m p hm hp (by rw [e]; exact ha) hf hb
theorem hp_grow {t0 t : Int32} (hS : hp_S t) (h : ∀ i, bt t0 i = true → bt t i = true) (ne : ¬ t0 = t) : hp_c t0 24 < hp_c t 24 := by
  have : ∃ a, ¬ bt t0 a = true ∧ bt t a = true := by
    apply Classical.byContradiction
    intro n
    exact ne (hp_ext fun i => ⟨h i, fun z => Classical.byContradiction fun y => n ⟨i, y, z⟩⟩)
  obtain ⟨a, h1, h2⟩ := this
  exact hp_c_lt h1 h2 24 (fun i _ => h i) (hS a h2)
theorem hp_S_m1 {s : Int32} (h : hp_S s) : ¬ (-1 : Int32) = s := fun e => by
  have := h 31 (by rw [← e]; exact b_m1 31 (by omega))
  omega
/-- least of those that satisfy Q, or -1 -/
def hp_mn (Q : Nat → Prop) (x : Int32) : Prop := (x = -1 ∧ ∀ p, p < 24 → ¬ Q p) ∨ ∃ a, a < 24 ∧ x = nI a ∧ Q a ∧ ∀ p, p < 24 → Q p → a ≤ p
theorem hp_mn_ls {Q : Nat → Prop} {x s : Int32} (h : hp_mn Q x) (hs : ∀ p, p < 24 → (bt s p = true ↔ Q p)) : x = hp_ls s := by
  rcases h with ⟨e, h⟩ | ⟨a, ha, e, hq, h⟩
  · rw [e, hp_ls_none (fun i hi z => h i hi ((hs i hi).mp z))]
  · rw [e, hp_ls_of ha ((hs a ha).mpr hq) (fun i hi z => by have := h i (by omega) ((hs i (by omega)).mp z); omega)]
/-- an array with its first n cells copied to b and on -/
def hp_cp (A : Nat → Int32) (b n : Nat) : Nat → Int32 := fun j => if b ≤ j ∧ j < b + n then A (j - b) else A j
theorem hp_cp_0 (A : Nat → Int32) (b : Nat) : hp_cp A b 0 = A := funext fun j => if_neg (by omega)
theorem hp_cp_lo {A : Nat → Int32} {b n j : Nat} (h : j < b) : hp_cp A b n j = A j := if_neg (by omega)
theorem hp_cp_in {A : Nat → Int32} {b n j : Nat} (h : j < n) : hp_cp A b n (b + j) = A j := by
  unfold hp_cp
  rw [if_pos (by omega), Nat.add_sub_cancel_left]
theorem hp_cp_out {A : Nat → Int32} {b n j : Nat} (h : b + n ≤ j) : hp_cp A b n j = A j := if_neg (by omega)
theorem hp_cp_s {A : Nat → Int32} {b n : Nat} (h : n < b) : upd (hp_cp A b n) (b + n) (hp_cp A b n n) = hp_cp A b (n + 1) := by
  rw [hp_cp_lo h]
  funext j
  by_cases z : j = b + n
  · subst z
    rw [pk_us, hp_cp_in (by omega)]
  · rw [pk_un z]
    unfold hp_cp
    by_cases y : b ≤ j ∧ j < b + n
    · rw [if_pos y, if_pos (by omega)]
    · rw [if_neg y, if_neg (by omega)]
end
