/-! sets of objects as Int32 by their bits; counts; the least member -/
theorem hp_b1 : ∀ i, i < 32 → bt 1 i = decide (i = 0) := by decide +kernel
theorem hp_sh1 (s : Int32) {o : Nat} (h : o < 32) : (s >>> (nI o &&& 31)) &&& 1 = if bt s o = true then 1 else 0 := by
  apply b_ext
  intro i hi
  rw [b_and, b_sshr o h s hi, hp_b1 i hi]
  by_cases z : i = 0
  · subst z
    rw [if_pos (by omega : o + 0 < 32), Nat.add_zero]
    cases e : bt s o
    · rw [if_neg (by decide), b_0]; rfl
    · rw [if_pos rfl, hp_b1 0 hi]; rfl
  · rw [decide_eq_false z, Bool.and_false]
    cases e : bt s o
    · rw [if_neg (by decide), b_0]
    · rw [if_pos rfl, hp_b1 i hi, decide_eq_false z]
theorem hp_sh_t {s : Int32} {o : Nat} (h : o < 32) (e : bt s o = true) : (s >>> (nI o &&& 31)) &&& 1 = 1 := by
  rw [hp_sh1 s h, if_pos e]
theorem hp_sh_f {s : Int32} {o : Nat} (h : o < 32) (e : bt s o = false) : (s >>> (nI o &&& 31)) &&& 1 = 0 := by
  rw [hp_sh1 s h, if_neg (by rw [e]; decide)]
theorem hp_shI (s : Int32) {o : Nat} (h : o < 32) : (s >>> (nI o &&& 31)) &&& 1 = 1 ↔ bt s o = true := by
  rw [hp_sh1 s h]
  by_cases e : bt s o = true
  · rw [if_pos e]; exact ⟨fun _ => e, fun _ => rfl⟩
  · rw [if_neg e]; exact ⟨fun z => absurd z (by decide), fun z => absurd z e⟩
theorem hp_sh0 (s : Int32) {o : Nat} (h : o < 32) : (s >>> (nI o &&& 31)) &&& 1 = 0 ↔ bt s o = false := by
  rw [hp_sh1 s h]
  by_cases e : bt s o = true
  · rw [if_pos e, e]; exact ⟨fun z => absurd z (by decide), fun z => absurd z (by decide)⟩
  · rw [if_neg e]; exact ⟨fun _ => Bool.eq_false_iff.mpr e, fun _ => rfl⟩
theorem hp_one {j : Nat} (hj : j < 32) (i : Nat) : bt ((1 : Int32) <<< (nI j &&& 31)) i = decide (i = j) := by
  rcases Nat.lt_or_ge i 32 with hi | hi
  · rw [b_shl j hj 1 hi]
    by_cases z : j ≤ i
    · rw [decide_eq_true z, Bool.true_and, hp_b1 _ (by omega)]
      by_cases y : i = j
      · rw [decide_eq_true y, decide_eq_true (by omega)]
      · rw [decide_eq_false y, decide_eq_false (by omega)]
    · rw [decide_eq_false z, Bool.false_and, decide_eq_false (by omega)]
  · rw [b_big hi, decide_eq_false (by omega)]
theorem hp_one_iff {j : Nat} (hj : j < 32) {i : Nat} : bt ((1 : Int32) <<< (nI j &&& 31)) i = true ↔ i = j := by
  rw [hp_one hj, decide_eq_true_eq]
theorem hp_not (s : Int32) {i : Nat} (hi : i < 32) : bt (s ^^^ (-1)) i = !(bt s i) := by
  rw [b_xor, b_m1 i hi, Bool.xor_true]
theorem hp_andn (s t : Int32) (i : Nat) : bt (s &&& (t ^^^ (-1))) i = (bt s i && !(bt t i)) := by
  rcases Nat.lt_or_ge i 32 with hi | hi
  · rw [b_and, hp_not t hi]
  · rw [b_big hi, b_big (x := s) hi, Bool.false_and]
theorem hp_andn_iff {s t : Int32} {i : Nat} : bt (s &&& (t ^^^ (-1))) i = true ↔ bt s i = true ∧ ¬ bt t i = true := by
  rw [hp_andn]; cases bt s i <;> cases bt t i <;> decide
theorem hp_or_iff {s t : Int32} {i : Nat} : bt (s ||| t) i = true ↔ bt s i = true ∨ bt t i = true := by
  rw [b_or]; cases bt s i <;> cases bt t i <;> decide
theorem hp_and_iff {s t : Int32} {i : Nat} : bt (s &&& t) i = true ↔ bt s i = true ∧ bt t i = true := by
  rw [b_and]; cases bt s i <;> cases bt t i <;> decide
theorem hp_0 {i : Nat} : ¬ bt 0 i = true := by rw [b_0]; decide
/-- two sets with the same members are one -/
theorem hp_ext {s t : Int32} (h : ∀ i, bt s i = true ↔ bt t i = true) : s = t := by
  apply b_ext
  intro i _
  have := h i
  cases e : bt s i <;> cases f : bt t i <;> simp [e, f] at this <;> rfl
/-- no member at 24 or beyond -/
def hp_S (s : Int32) : Prop := ∀ i, bt s i = true → i < 24
theorem hp_S_0 : hp_S 0 := fun _ h => absurd h hp_0
theorem hp_S_or {s t : Int32} (a : hp_S s) (b : hp_S t) : hp_S (s ||| t) := fun i h => (hp_or_iff.mp h).elim (a i) (b i)
theorem hp_S_and {s t : Int32} (a : hp_S s) : hp_S (s &&& t) := fun i h => a i (hp_and_iff.mp h).1
theorem hp_S_one {j : Nat} (hj : j < 24) : hp_S ((1 : Int32) <<< (nI j &&& 31)) := fun i h => by
  rw [hp_one_iff (by omega)] at h; omega
theorem hp_or_one {s : Int32} {j i : Nat} (hj : j < 32) : bt (s ||| ((1 : Int32) <<< (nI j &&& 31))) i = true ↔ bt s i = true ∨ i = j := by
  rw [hp_or_iff, hp_one_iff hj]
/-- a proposition as a truth value -/
noncomputable def hp_d (p : Prop) : Bool := @decide p (Classical.propDecidable p)
theorem hp_d_iff {p : Prop} : hp_d p = true ↔ p := by
  unfold hp_d
  exact @decide_eq_true_iff p (Classical.propDecidable p)
/-- the set of those below n for which P holds, as the loops make it -/
def hp_mk (P : Nat → Bool) : Nat → Int32
  | 0 => 0
  | n + 1 => if P n = true then hp_mk P n ||| ((1 : Int32) <<< (nI n &&& 31)) else hp_mk P n
theorem hp_mk_iff (P : Nat → Bool) : ∀ n, n ≤ 32 → ∀ i, bt (hp_mk P n) i = true ↔ i < n ∧ P i = true
  | 0 => fun _ i => by
    show bt 0 i = true ↔ _
    exact ⟨fun h => absurd h hp_0, fun h => absurd h.1 (by omega)⟩
  | n + 1 => fun hn i => by
    have ih := hp_mk_iff P n (by omega) i
    show bt (if P n = true then hp_mk P n ||| ((1 : Int32) <<< (nI n &&& 31)) else hp_mk P n) i = true ↔ _
    by_cases z : P n = true
    · rw [if_pos z, hp_or_one (by omega), ih]
      constructor
      · rintro (h | h)
        · exact ⟨by omega, h.2⟩
        · exact ⟨by omega, by rw [h]; exact z⟩
      · intro h
        by_cases y : i = n
        · exact Or.inr y
        · exact Or.inl ⟨by omega, h.2⟩
    · rw [if_neg z, ih]
      constructor
      · intro h; exact ⟨by omega, h.2⟩
      · intro h
        refine ⟨?_, h.2⟩
        by_cases y : i = n
        · rw [y] at h; exact absurd h.2 z
        · omega
theorem hp_mk24 (P : Nat → Bool) {i : Nat} : bt (hp_mk P 24) i = true ↔ i < 24 ∧ P i = true := hp_mk_iff P 24 (by omega) i
theorem hp_mk_S (P : Nat → Bool) : hp_S (hp_mk P 24) := fun i h => ((hp_mk24 P).mp h).1
/-- how many of the bits below n -/
def hp_c (s : Int32) : Nat → Nat
  | 0 => 0
  | n + 1 => hp_c s n + if bt s n = true then 1 else 0
theorem hp_c_le (s : Int32) : ∀ n, hp_c s n ≤ n
  | 0 => Nat.le_refl 0
  | n + 1 => by
    have := hp_c_le s n
    simp only [hp_c]
    split <;> omega
theorem hp_c_mono {s t : Int32} : ∀ n, (∀ i, i < n → bt s i = true → bt t i = true) → hp_c s n ≤ hp_c t n
  | 0 => fun _ => Nat.le_refl 0
  | n + 1 => fun h => by
    have ih := hp_c_mono n (fun i hi => h i (by omega))
    have hn := h n (by omega)
    simp only [hp_c]
    by_cases z : bt s n = true
    · rw [if_pos z, if_pos (hn z)]; omega
    · rw [if_neg z]; omega
theorem hp_c_lt {s t : Int32} {a : Nat} (ha : ¬ bt s a = true) (hb : bt t a = true) : ∀ n, (∀ i, i < n → bt s i = true → bt t i = true) → a < n → hp_c s n < hp_c t n
  | 0 => fun _ h => absurd h (by omega)
  | n + 1 => fun h hn => by
    have hh := h n (by omega)
    simp only [hp_c]
    by_cases y : a = n
    · have ih := hp_c_mono n (fun i hi => h i (by omega))
      rw [← y, if_neg ha, if_pos hb]
      rw [← y] at ih
      omega
    · have ih := hp_c_lt ha hb n (fun i hi => h i (by omega)) (by omega)
      by_cases z : bt s n = true
      · rw [if_pos z, if_pos (hh z)]; omega
      · rw [if_neg z]; omega
theorem hp_c_full {s : Int32} : ∀ n, n ≤ hp_c s n → ∀ i, i < n → bt s i = true
  | 0 => fun _ i h => absurd h (by omega)
  | n + 1 => fun h i hi => by
    have l := hp_c_le s n
    simp only [hp_c] at h
    by_cases z : bt s n = true
    · by_cases y : i = n
      · rw [y]; exact z
      · rw [if_pos z] at h
        exact hp_c_full n (by omega) i (by omega)
    · rw [if_neg z] at h; omega
theorem hp_c_zero {s : Int32} : ∀ n, hp_c s n = 0 → ∀ i, i < n → ¬ bt s i = true
  | 0 => fun _ i h => absurd h (by omega)
  | n + 1 => fun h i hi => by
    simp only [hp_c] at h
    by_cases z : bt s n = true
    · rw [if_pos z] at h; omega
    · by_cases y : i = n
      · rw [y]; exact z
      · rw [if_neg z] at h
        exact hp_c_zero n (by omega) i (by omega)
theorem hp_c_pos {s : Int32} {a : Nat} (ha : bt s a = true) {n : Nat} (h : a < n) : 0 < hp_c s n := by
  rcases Nat.eq_zero_or_pos (hp_c s n) with z | z
  · exact absurd ha (hp_c_zero n z a h)
  · exact z
/-- the count as the loops make it -/
def hp_cn (s : Int32) : Nat → Int32
  | 0 => 0
  | n + 1 => hp_cn s n + ((s >>> (nI n &&& 31)) &&& 1)
theorem hp_cn_eq (s : Int32) : ∀ n, n ≤ 32 → hp_cn s n = nI (hp_c s n)
  | 0 => fun _ => nI_0.symm
  | n + 1 => fun h => by
    show hp_cn s n + ((s >>> (nI n &&& 31)) &&& 1) = nI (hp_c s n + if bt s n = true then 1 else 0)
    rw [hp_cn_eq s n (by omega), hp_sh1 s (by omega)]
    by_cases z : bt s n = true
    · rw [if_pos z, if_pos z, nI_1]
    · rw [if_neg z, if_neg z, Int32.add_zero, Nat.add_zero]
theorem hp_cn_s {s : Int32} {n : Nat} (h : n < 32) : hp_cn s (n + 1) = hp_cn s n + if bt s n = true then 1 else 0 := by
  show hp_cn s n + ((s >>> (nI n &&& 31)) &&& 1) = _
  rw [hp_sh1 s h]
/-- the sum of the sizes z (24 * w + o) of the members o below n -/
def hp_sum (z : Nat → Int32) (w : Nat) (s : Int32) : Nat → Int32
  | 0 => 0
  | n + 1 => if bt s n = true then hp_sum z w s n + z (24 * w + n) else hp_sum z w s n
/-- the least member below 24, or -1 -/
def hp_lsN (s : Int32) : Nat → Int32
  | 0 => -1
  | n + 1 => if hp_lsN s n = -1 then (if bt s n = true then nI n else -1) else hp_lsN s n
theorem hp_nI_ne {n : Nat} (h : n < 2 ^ 31) : ¬ nI n = -1 := by
  intro e
  have := nI_pos (n := n) h
  rw [e] at this
  exact this (by decide)
theorem hp_ls_spec (s : Int32) : ∀ n, n ≤ 24 → (hp_lsN s n = -1 ∧ ∀ i, i < n → ¬ bt s i = true) ∨ ∃ a, a < n ∧ hp_lsN s n = nI a ∧ bt s a = true ∧ ∀ i, i < a → ¬ bt s i = true
  | 0 => fun _ => Or.inl ⟨rfl, fun i h => absurd h (by omega)⟩
  | n + 1 => fun hn => by
    rcases hp_ls_spec s n (by omega) with ⟨e, h⟩ | ⟨a, ha, e, hb, hc⟩
    · by_cases z : bt s n = true
      · refine Or.inr ⟨n, by omega, ?_, z, h⟩
        show (if hp_lsN s n = -1 then (if bt s n = true then nI n else -1) else hp_lsN s n) = _
        rw [if_pos e, if_pos z]
      · refine Or.inl ⟨?_, fun i hi => ?_⟩
        · show (if hp_lsN s n = -1 then (if bt s n = true then nI n else -1) else hp_lsN s n) = _
          rw [if_pos e, if_neg z]
        · by_cases y : i = n
          · rw [y]; exact z
          · exact h i (by omega)
    · refine Or.inr ⟨a, by omega, ?_, hb, hc⟩
      show (if hp_lsN s n = -1 then (if bt s n = true then nI n else -1) else hp_lsN s n) = _
      rw [if_neg (by rw [e]; exact hp_nI_ne (by omega)), e]
def hp_ls (s : Int32) : Int32 := hp_lsN s 24
theorem hp_ls_cases (s : Int32) : (hp_ls s = -1 ∧ ∀ i, i < 24 → ¬ bt s i = true) ∨ ∃ a, a < 24 ∧ hp_ls s = nI a ∧ bt s a = true ∧ ∀ i, i < a → ¬ bt s i = true := hp_ls_spec s 24 (by omega)
theorem hp_ls_of {s : Int32} {a : Nat} (ha : a < 24) (hb : bt s a = true) (hc : ∀ i, i < a → ¬ bt s i = true) : hp_ls s = nI a := by
  rcases hp_ls_cases s with ⟨_, h⟩ | ⟨b, hb1, e, hb2, hb3⟩
  · exact absurd hb (h a ha)
  · rw [e]
    rcases Nat.lt_trichotomy a b with y | y | y
    · exact absurd hb (hb3 a y)
    · rw [y]
    · exact absurd hb2 (hc b y)
theorem hp_ls_none {s : Int32} (h : ∀ i, i < 24 → ¬ bt s i = true) : hp_ls s = -1 := by
  rcases hp_ls_cases s with ⟨e, _⟩ | ⟨b, hb1, _, hb2, _⟩
  · exact e
  · exact absurd hb2 (h b hb1)
/-- a row of growing sets stands still after 24 steps; after 23 if it doesn't start from nothing -/
theorem hp_pg (U : Nat → Int32) (hS : ∀ k, hp_S (U k)) (inc : ∀ k i, bt (U k) i = true → bt (U (k + 1)) i = true) (stab : ∀ k, U (k + 1) = U k → U (k + 2) = U (k + 1)) : ∀ k, U (k + 1) = U k ∨ k + hp_c (U 0) 24 ≤ hp_c (U k) 24
  | 0 => Or.inr (by omega)
  | k + 1 => by
    by_cases e : U (k + 2) = U (k + 1)
    · exact Or.inl e
    · refine Or.inr ?_
      have ne : ¬ U (k + 1) = U k := fun z => e (stab k z)
      have ih := (hp_pg U hS inc stab k).resolve_left ne
      have : ∃ a, ¬ bt (U k) a = true ∧ bt (U (k + 1)) a = true := by
        apply Classical.byContradiction
        intro h
        exact ne (hp_ext fun i => ⟨fun z => Classical.byContradiction fun y => h ⟨i, y, z⟩, inc k i⟩)
      obtain ⟨a, h1, h2⟩ := this
      have := hp_c_lt h1 h2 24 (fun i _ => inc k i) (hS _ a h2)
      omega
theorem hp_pg24 (U : Nat → Int32) (hS : ∀ k, hp_S (U k)) (inc : ∀ k i, bt (U k) i = true → bt (U (k + 1)) i = true) (stab : ∀ k, U (k + 1) = U k → U (k + 2) = U (k + 1)) : U 25 = U 24 := by
  rcases hp_pg U hS inc stab 24 with h | h
  · exact h
  · have f := hp_c_full 24 (by omega : 24 ≤ hp_c (U 24) 24)
    exact hp_ext fun i => ⟨fun z => f i (hS _ i z), inc 24 i⟩
theorem hp_pg23 (U : Nat → Int32) (hS : ∀ k, hp_S (U k)) (inc : ∀ k i, bt (U k) i = true → bt (U (k + 1)) i = true) (stab : ∀ k, U (k + 1) = U k → U (k + 2) = U (k + 1)) (h0 : 0 < hp_c (U 0) 24) : U 24 = U 23 := by
  rcases hp_pg U hS inc stab 23 with h | h
  · exact h
  · have f := hp_c_full 24 (by omega : 24 ≤ hp_c (U 23) 24)
    exact hp_ext fun i => ⟨fun z => f i (hS _ i z), inc 23 i⟩
theorem hp_still (U : Nat → Int32) (stab : ∀ k, U (k + 1) = U k → U (k + 2) = U (k + 1)) {k : Nat} (h : U (k + 1) = U k) : ∀ d, U (k + d + 1) = U (k + d) ∧ U (k + d) = U k
  | 0 => ⟨h, rfl⟩
  | d + 1 => by
    have ⟨a, b⟩ := hp_still U stab h d
    exact ⟨stab (k + d) a, a.trans b⟩
