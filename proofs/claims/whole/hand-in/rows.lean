section
/-! rows of the kit's pasteable texts: Int32 by its bits, numbers, branches by naturals -/
def bt (x : Int32) (i : Nat) : Bool := x.toBitVec.getLsbD i
theorem b_ext {x y : Int32} (h : ∀ i, i < 32 → bt x i = bt y i) : x = y := Int32.toBitVec_inj.mp (BitVec.eq_of_getLsbD_eq (fun i hi => h i hi))
theorem b_or (x y : Int32) (i : Nat) : bt (x ||| y) i = (bt x i || bt y i) := by unfold bt; rw [Int32.toBitVec_or, BitVec.getLsbD_or]
theorem b_and (x y : Int32) (i : Nat) : bt (x &&& y) i = (bt x i && bt y i) := by unfold bt; rw [Int32.toBitVec_and, BitVec.getLsbD_and]
theorem b_xor (x y : Int32) (i : Nat) : bt (x ^^^ y) i = (bt x i ^^ bt y i) := by unfold bt; rw [Int32.toBitVec_xor, BitVec.getLsbD_xor]
theorem b_big {x : Int32} {i : Nat} (h : 32 ≤ i) : bt x i = false := BitVec.getLsbD_of_ge _ _ h
theorem b_m1 : ∀ i, i < 32 → bt (-1) i = true := by decide +kernel
theorem b_0 (i : Nat) : bt 0 i = false := BitVec.getLsbD_zero
theorem s_l : ∀ n, n < 32 → ((nI n &&& 31).toBitVec.smod 32).toNat = n := by decide +kernel
theorem b_shl (n : Nat) (hn : n < 32) (x : Int32) {i : Nat} (hi : i < 32) : bt (x <<< (nI n &&& 31)) i = (decide (n ≤ i) && bt x (i - n)) := by
  unfold bt
  rw [Int32.toBitVec_shiftLeft]
  show (x.toBitVec <<< ((nI n &&& 31).toBitVec.smod 32).toNat).getLsbD i = _
  rw [s_l n hn, BitVec.getLsbD_shiftLeft]
  rcases Nat.lt_or_ge i n with h | h
  · simp [h, Nat.not_le.mpr h]
  · simp [hi, h, Nat.not_lt.mpr h]
theorem b_sshr (n : Nat) (hn : n < 32) (x : Int32) {i : Nat} (hi : i < 32) : bt (x >>> (nI n &&& 31)) i = if n + i < 32 then bt x (n + i) else bt x 31 := by
  unfold bt
  rw [Int32.toBitVec_shiftRight]
  show (x.toBitVec.sshiftRight ((nI n &&& 31).toBitVec.smod 32).toNat).getLsbD i = _
  rw [s_l n hn, BitVec.getLsbD_sshiftRight, BitVec.msb_eq_getLsbD_last]
  simp [hi]
theorem pk_us {f : Nat → Int32} {k : Nat} {x : Int32} : upd f k x k = x := if_pos rfl
theorem pk_un {f : Nat → Int32} {k j : Nat} {x : Int32} (h : j ≠ k) : upd f k x j = f j := if_neg h
theorem pk_sub {a b : Nat} (h : b ≤ a) : nI a - nI b = nI (a - b) := by
  obtain ⟨c, rfl⟩ : ∃ c, a = c + b := ⟨a - b, by omega⟩
  rw [← nI_add, Int32.add_sub_cancel, Nat.add_sub_cancel]
theorem pk_m1 (n : Nat) : nI (n + 1) + (-1) = nI n := by
  rw [← nI_1, Int32.add_assoc, show (1 : Int32) + (-1) = 0 from rfl, Int32.add_zero]
theorem pk_mul (a b : Nat) : nI a * nI b = nI (a * b) := (Int32.ofNat_mul a b).symm
theorem pk_div {a d : Nat} (ha : a < 2 ^ 31) (h0 : 0 < d) (hd : d < 2 ^ 31) : nI a / nI d = nI (a / d) := by
  apply Int32.toInt_inj.mp
  rw [lg_idiv_nonneg (by rw [nI_toInt ha]; omega) (by rw [nI_toInt hd]; omega), nI_toInt ha, nI_toInt hd, nI_toInt (Nat.lt_of_le_of_lt (Nat.div_le_self a d) ha)]
  first | rfl | exact (Int.natCast_ediv _ _).symm
theorem pk_rem {a d : Nat} (ha : a < 2 ^ 31) (h0 : 0 < d) (hd : d < 2 ^ 31) : nI a - nI a / nI d * nI d = nI (a % d) := by
  rw [pk_div ha h0 hd, pk_mul, pk_sub (Nat.div_mul_le_self a d)]
  exact congrArg nI (by have := Nat.div_add_mod' a d; omega)
theorem pk_ix (x : Int32) {n : Nat} (hn : n < 2 ^ 31) : x < 0 ∨ nI n ≤ x ∨ ∃ j : Nat, j < n ∧ x = nI j := by
  by_cases h : x < 0
  · exact Or.inl h
  · obtain ⟨j, hj, rfl⟩ := nI_of h
    by_cases h2 : j < n
    · exact Or.inr (Or.inr ⟨j, h2, rfl⟩)
    · exact Or.inr (Or.inl (nI_le (by omega) hj))
theorem pk_le {x y : Int32} {A B : Prop} (a b : Nat) (f : a ≤ b → A) (g : b < a → B) (hx : x = nI a := by rfl) (hy : y = nI b := by rfl) (ha : a < 2 ^ 31 := by omega) (hb : b < 2 ^ 31 := by omega) : (x ≤ y → A) ∧ (¬ x ≤ y → B) := by
  subst hx hy
  rw [nI_leI ha hb]
  exact ⟨f, fun z => g (by omega)⟩
theorem pk_lt {x y : Int32} {A B : Prop} (a b : Nat) (f : a < b → A) (g : b ≤ a → B) (hx : x = nI a := by rfl) (hy : y = nI b := by rfl) (ha : a < 2 ^ 31 := by omega) (hb : b < 2 ^ 31 := by omega) : (x < y → A) ∧ (¬ x < y → B) := by
  subst hx hy
  rw [nI_ltI ha hb]
  exact ⟨f, fun z => g (by omega)⟩
theorem pk_eq {x y : Int32} {A B : Prop} (a b : Nat) (f : a = b → A) (g : a ≠ b → B) (hx : x = nI a := by rfl) (hy : y = nI b := by rfl) (ha : a < 2 ^ 31 := by omega) (hb : b < 2 ^ 31 := by omega) : (x = y → A) ∧ (¬ x = y → B) := by
  subst hx hy
  rw [nI_eq ha hb]
  exact ⟨f, g⟩
theorem pk_in {x : Int32} (n N : Nat) (h : n < N) (hx : x = nI n := by rfl) (hN : N < 2 ^ 31 := by omega) : vp_in x N := by
  subst hx
  exact vp_in_nI h hN
theorem pk_cl {x : Int32} (n : Nat) (hx : x = nI n := by rfl) (h : n < 2 ^ 31 := by omega) : x.toNatClampNeg = n := by
  subst hx
  exact nI_clamp h
theorem pk_tn {n : Nat} (h : n < 2 ^ 32) : (nI n).toBitVec.toNat = n := Nat.mod_eq_of_lt h
theorem pk_loop {σ : Type} (W : Nat → Nat → σ → Prop) (I : Nat → σ → Prop) (e i0 : Nat) (s : σ) (hi : i0 ≤ e) (h0 : I i0 s) (hx : ∀ n s, I e s → W (n + 1) e s)
    (hs : ∀ n i s, i < e → I i s → (∀ s', I (i + 1) s' → W n (i + 1) s') → W (n + 1) i s) : ∃ n, W n i0 s :=
  ⟨e + 1, loop_i W I e hx hs (e + 1) i0 s hi (by omega) h0⟩
theorem pk_least (P : Nat → Prop) (h : ∃ k, P k) : ∃ k, P k ∧ ∀ j, j < k → ¬ P j := by
  obtain ⟨k, hk⟩ := h
  induction k using Nat.strongRecOn with
  | ind k ih =>
    by_cases e : ∃ j, j < k ∧ P j
    · obtain ⟨j, hj, pj⟩ := e
      exact ih j hj pj
    · exact ⟨k, hk, fun j hj pj => e ⟨j, hj, pj⟩⟩
end
section
/-! sets of objects as Int32 by their bits; counts; the least member -/
theorem hp_b1 : ∀ i, i < 32 → bt 1 i = decide (i = 0) := by decide +kernel
theorem hp_sh1 (s : Int32) {o : Nat} (h : o < 32) : (s >>> (nI o &&& 31)) &&& 1 = if bt s o = true then 1 else 0 := by
  apply b_ext
  intro i hi
  rw [b_and, b_sshr o h s hi, hp_b1 i hi]
  by_cases z : i = 0
  · subst z
    rw [if_pos (by omega : o + 0 < 32), Nat.add_zero]
    cases e : bt s o
    · rw [if_neg (by decide), b_0]; rfl
    · rw [if_pos rfl, hp_b1 0 hi]; rfl
  · rw [decide_eq_false z, Bool.and_false]
    cases e : bt s o
    · rw [if_neg (by decide), b_0]
    · rw [if_pos rfl, hp_b1 i hi, decide_eq_false z]
theorem hp_sh_t {s : Int32} {o : Nat} (h : o < 32) (e : bt s o = true) : (s >>> (nI o &&& 31)) &&& 1 = 1 := by
  rw [hp_sh1 s h, if_pos e]
theorem hp_sh_f {s : Int32} {o : Nat} (h : o < 32) (e : bt s o = false) : (s >>> (nI o &&& 31)) &&& 1 = 0 := by
  rw [hp_sh1 s h, if_neg (by rw [e]; decide)]
theorem hp_shI (s : Int32) {o : Nat} (h : o < 32) : (s >>> (nI o &&& 31)) &&& 1 = 1 ↔ bt s o = true := by
  rw [hp_sh1 s h]
  by_cases e : bt s o = true
  · rw [if_pos e]; exact ⟨fun _ => e, fun _ => rfl⟩
  · rw [if_neg e]; exact ⟨fun z => absurd z (by decide), fun z => absurd z e⟩
theorem hp_sh0 (s : Int32) {o : Nat} (h : o < 32) : (s >>> (nI o &&& 31)) &&& 1 = 0 ↔ bt s o = false := by
  rw [hp_sh1 s h]
  by_cases e : bt s o = true
  · rw [if_pos e, e]; exact ⟨fun z => absurd z (by decide), fun z => absurd z (by decide)⟩
  · rw [if_neg e]; exact ⟨fun _ => Bool.eq_false_iff.mpr e, fun _ => rfl⟩
theorem hp_one {j : Nat} (hj : j < 32) (i : Nat) : bt ((1 : Int32) <<< (nI j &&& 31)) i = decide (i = j) := by
  rcases Nat.lt_or_ge i 32 with hi | hi
  · rw [b_shl j hj 1 hi]
    by_cases z : j ≤ i
    · rw [decide_eq_true z, Bool.true_and, hp_b1 _ (by omega)]
      by_cases y : i = j
      · rw [decide_eq_true y, decide_eq_true (by omega)]
      · rw [decide_eq_false y, decide_eq_false (by omega)]
    · rw [decide_eq_false z, Bool.false_and, decide_eq_false (by omega)]
  · rw [b_big hi, decide_eq_false (by omega)]
theorem hp_one_iff {j : Nat} (hj : j < 32) {i : Nat} : bt ((1 : Int32) <<< (nI j &&& 31)) i = true ↔ i = j := by
  rw [hp_one hj, decide_eq_true_eq]
theorem hp_not (s : Int32) {i : Nat} (hi : i < 32) : bt (s ^^^ (-1)) i = !(bt s i) := by
  rw [b_xor, b_m1 i hi, Bool.xor_true]
theorem hp_andn (s t : Int32) (i : Nat) : bt (s &&& (t ^^^ (-1))) i = (bt s i && !(bt t i)) := by
  rcases Nat.lt_or_ge i 32 with hi | hi
  · rw [b_and, hp_not t hi]
  · rw [b_big hi, b_big (x := s) hi, Bool.false_and]
theorem hp_andn_iff {s t : Int32} {i : Nat} : bt (s &&& (t ^^^ (-1))) i = true ↔ bt s i = true ∧ ¬ bt t i = true := by
  rw [hp_andn]; cases bt s i <;> cases bt t i <;> decide
theorem hp_or_iff {s t : Int32} {i : Nat} : bt (s ||| t) i = true ↔ bt s i = true ∨ bt t i = true := by
  rw [b_or]; cases bt s i <;> cases bt t i <;> decide
theorem hp_and_iff {s t : Int32} {i : Nat} : bt (s &&& t) i = true ↔ bt s i = true ∧ bt t i = true := by
  rw [b_and]; cases bt s i <;> cases bt t i <;> decide
theorem hp_0 {i : Nat} : ¬ bt 0 i = true := by rw [b_0]; decide
/-- two sets with the same members are one -/
theorem hp_ext {s t : Int32} (h : ∀ i, bt s i = true ↔ bt t i = true) : s = t := by
  apply b_ext
  intro i _
  have := h i
  cases e : bt s i <;> cases f : bt t i <;> simp [e, f] at this <;> rfl
/-- no member at 24 or beyond -/
def hp_S (s : Int32) : Prop := ∀ i, bt s i = true → i < 24
theorem hp_S_0 : hp_S 0 := fun _ h => absurd h hp_0
theorem hp_S_or {s t : Int32} (a : hp_S s) (b : hp_S t) : hp_S (s ||| t) := fun i h => (hp_or_iff.mp h).elim (a i) (b i)
theorem hp_S_and {s t : Int32} (a : hp_S s) : hp_S (s &&& t) := fun i h => a i (hp_and_iff.mp h).1
theorem hp_S_one {j : Nat} (hj : j < 24) : hp_S ((1 : Int32) <<< (nI j &&& 31)) := fun i h => by
  rw [hp_one_iff (by omega)] at h; omega
theorem hp_or_one {s : Int32} {j i : Nat} (hj : j < 32) : bt (s ||| ((1 : Int32) <<< (nI j &&& 31))) i = true ↔ bt s i = true ∨ i = j := by
  rw [hp_or_iff, hp_one_iff hj]
/-- a proposition as a truth value -/
noncomputable def hp_d (p : Prop) : Bool := @decide p (Classical.propDecidable p)
theorem hp_d_iff {p : Prop} : hp_d p = true ↔ p := by
  unfold hp_d
  exact @decide_eq_true_iff p (Classical.propDecidable p)
/-- the set of those below n for which P holds, as the loops make it -/
def hp_mk (P : Nat → Bool) : Nat → Int32
  | 0 => 0
  | n + 1 => if P n = true then hp_mk P n ||| ((1 : Int32) <<< (nI n &&& 31)) else hp_mk P n
theorem hp_mk_iff (P : Nat → Bool) : ∀ n, n ≤ 32 → ∀ i, bt (hp_mk P n) i = true ↔ i < n ∧ P i = true
  | 0 => fun _ i => by
    show bt 0 i = true ↔ _
    exact ⟨fun h => absurd h hp_0, fun h => absurd h.1 (by omega)⟩
  | n + 1 => fun hn i => by
    have ih := hp_mk_iff P n (by omega) i
    show bt (if P n = true then hp_mk P n ||| ((1 : Int32) <<< (nI n &&& 31)) else hp_mk P n) i = true ↔ _
    by_cases z : P n = true
    · rw [if_pos z, hp_or_one (by omega), ih]
      constructor
      · rintro (h | h)
        · exact ⟨by omega, h.2⟩
        · exact ⟨by omega, by rw [h]; exact z⟩
      · intro h
        by_cases y : i = n
        · exact Or.inr y
        · exact Or.inl ⟨by omega, h.2⟩
    · rw [if_neg z, ih]
      constructor
      · intro h; exact ⟨by omega, h.2⟩
      · intro h
        refine ⟨?_, h.2⟩
        by_cases y : i = n
        · rw [y] at h; exact absurd h.2 z
        · omega
theorem hp_mk24 (P : Nat → Bool) {i : Nat} : bt (hp_mk P 24) i = true ↔ i < 24 ∧ P i = true := hp_mk_iff P 24 (by omega) i
theorem hp_mk_S (P : Nat → Bool) : hp_S (hp_mk P 24) := fun i h => ((hp_mk24 P).mp h).1
/-- how many of the bits below n -/
def hp_c (s : Int32) : Nat → Nat
  | 0 => 0
  | n + 1 => hp_c s n + if bt s n = true then 1 else 0
theorem hp_c_le (s : Int32) : ∀ n, hp_c s n ≤ n
  | 0 => Nat.le_refl 0
  | n + 1 => by
    have := hp_c_le s n
    simp only [hp_c]
    split <;> omega
theorem hp_c_mono {s t : Int32} : ∀ n, (∀ i, i < n → bt s i = true → bt t i = true) → hp_c s n ≤ hp_c t n
  | 0 => fun _ => Nat.le_refl 0
  | n + 1 => fun h => by
    have ih := hp_c_mono n (fun i hi => h i (by omega))
    have hn := h n (by omega)
    simp only [hp_c]
    by_cases z : bt s n = true
    · rw [if_pos z, if_pos (hn z)]; omega
    · rw [if_neg z]; omega
theorem hp_c_lt {s t : Int32} {a : Nat} (ha : ¬ bt s a = true) (hb : bt t a = true) : ∀ n, (∀ i, i < n → bt s i = true → bt t i = true) → a < n → hp_c s n < hp_c t n
  | 0 => fun _ h => absurd h (by omega)
  | n + 1 => fun h hn => by
    have hh := h n (by omega)
    simp only [hp_c]
    by_cases y : a = n
    · have ih := hp_c_mono n (fun i hi => h i (by omega))
      rw [← y, if_neg ha, if_pos hb]
      rw [← y] at ih
      omega
    · have ih := hp_c_lt ha hb n (fun i hi => h i (by omega)) (by omega)
      by_cases z : bt s n = true
      · rw [if_pos z, if_pos (hh z)]; omega
      · rw [if_neg z]; omega
theorem hp_c_full {s : Int32} : ∀ n, n ≤ hp_c s n → ∀ i, i < n → bt s i = true
  | 0 => fun _ i h => absurd h (by omega)
  | n + 1 => fun h i hi => by
    have l := hp_c_le s n
    simp only [hp_c] at h
    by_cases z : bt s n = true
    · by_cases y : i = n
      · rw [y]; exact z
      · rw [if_pos z] at h
        exact hp_c_full n (by omega) i (by omega)
    · rw [if_neg z] at h; omega
theorem hp_c_zero {s : Int32} : ∀ n, hp_c s n = 0 → ∀ i, i < n → ¬ bt s i = true
  | 0 => fun _ i h => absurd h (by omega)
  | n + 1 => fun h i hi => by
    simp only [hp_c] at h
    by_cases z : bt s n = true
    · rw [if_pos z] at h; omega
    · by_cases y : i = n
      · rw [y]; exact z
      · rw [if_neg z] at h
        exact hp_c_zero n (by omega) i (by omega)
theorem hp_c_pos {s : Int32} {a : Nat} (ha : bt s a = true) {n : Nat} (h : a < n) : 0 < hp_c s n := by
  rcases Nat.eq_zero_or_pos (hp_c s n) with z | z
  · exact absurd ha (hp_c_zero n z a h)
  · exact z
/-- the count as the loops make it -/
def hp_cn (s : Int32) : Nat → Int32
  | 0 => 0
  | n + 1 => hp_cn s n + ((s >>> (nI n &&& 31)) &&& 1)
theorem hp_cn_eq (s : Int32) : ∀ n, n ≤ 32 → hp_cn s n = nI (hp_c s n)
  | 0 => fun _ => nI_0.symm
  | n + 1 => fun h => by
    show hp_cn s n + ((s >>> (nI n &&& 31)) &&& 1) = nI (hp_c s n + if bt s n = true then 1 else 0)
    rw [hp_cn_eq s n (by omega), hp_sh1 s (by omega)]
    by_cases z : bt s n = true
    · rw [if_pos z, if_pos z, nI_1]
    · rw [if_neg z, if_neg z, Int32.add_zero, Nat.add_zero]
theorem hp_cn_s {s : Int32} {n : Nat} (h : n < 32) : hp_cn s (n + 1) = hp_cn s n + if bt s n = true then 1 else 0 := by
  show hp_cn s n + ((s >>> (nI n &&& 31)) &&& 1) = _
  rw [hp_sh1 s h]
/-- the sum of the sizes z (24 * w + o) of the members o below n -/
def hp_sum (z : Nat → Int32) (w : Nat) (s : Int32) : Nat → Int32
  | 0 => 0
  | n + 1 => if bt s n = true then hp_sum z w s n + z (24 * w + n) else hp_sum z w s n
/-- the least member below 24, or -1 -/
def hp_lsN (s : Int32) : Nat → Int32
  | 0 => -1
  | n + 1 => if hp_lsN s n = -1 then (if bt s n = true then nI n else -1) else hp_lsN s n
theorem hp_nI_ne {n : Nat} (h : n < 2 ^ 31) : ¬ nI n = -1 := by
  intro e
  have := nI_pos (n := n) h
  rw [e] at this
  exact this (by decide)
theorem hp_ls_spec (s : Int32) : ∀ n, n ≤ 24 → (hp_lsN s n = -1 ∧ ∀ i, i < n → ¬ bt s i = true) ∨ ∃ a, a < n ∧ hp_lsN s n = nI a ∧ bt s a = true ∧ ∀ i, i < a → ¬ bt s i = true
  | 0 => fun _ => Or.inl ⟨rfl, fun i h => absurd h (by omega)⟩
  | n + 1 => fun hn => by
    rcases hp_ls_spec s n (by omega) with ⟨e, h⟩ | ⟨a, ha, e, hb, hc⟩
    · by_cases z : bt s n = true
      · refine Or.inr ⟨n, by omega, ?_, z, h⟩
        show (if hp_lsN s n = -1 then (if bt s n = true then nI n else -1) else hp_lsN s n) = _
        rw [if_pos e, if_pos z]
      · refine Or.inl ⟨?_, fun i hi => ?_⟩
        · show (if hp_lsN s n = -1 then (if bt s n = true then nI n else -1) else hp_lsN s n) = _
          rw [if_pos e, if_neg z]
        · by_cases y : i = n
          · rw [y]; exact z
          · exact h i (by omega)
    · refine Or.inr ⟨a, by omega, ?_, hb, hc⟩
      show (if hp_lsN s n = -1 then (if bt s n = true then nI n else -1) else hp_lsN s n) = _
      rw [if_neg (by rw [e]; exact hp_nI_ne (by omega)), e]
def hp_ls (s : Int32) : Int32 := hp_lsN s 24
theorem hp_ls_cases (s : Int32) : (hp_ls s = -1 ∧ ∀ i, i < 24 → ¬ bt s i = true) ∨ ∃ a, a < 24 ∧ hp_ls s = nI a ∧ bt s a = true ∧ ∀ i, i < a → ¬ bt s i = true := hp_ls_spec s 24 (by omega)
theorem hp_ls_of {s : Int32} {a : Nat} (ha : a < 24) (hb : bt s a = true) (hc : ∀ i, i < a → ¬ bt s i = true) : hp_ls s = nI a := by
  rcases hp_ls_cases s with ⟨_, h⟩ | ⟨b, hb1, e, hb2, hb3⟩
  · exact absurd hb (h a ha)
  · rw [e]
    rcases Nat.lt_trichotomy a b with y | y | y
    · exact absurd hb (hb3 a y)
    · rw [y]
    · exact absurd hb2 (hc b y)
theorem hp_ls_none {s : Int32} (h : ∀ i, i < 24 → ¬ bt s i = true) : hp_ls s = -1 := by
  rcases hp_ls_cases s with ⟨e, _⟩ | ⟨b, hb1, _, hb2, _⟩
  · exact e
  · exact absurd hb2 (h b hb1)
/-- a row of growing sets stands still after 24 steps; after 23 if it doesn't start from nothing -/
theorem hp_pg (U : Nat → Int32) (hS : ∀ k, hp_S (U k)) (inc : ∀ k i, bt (U k) i = true → bt (U (k + 1)) i = true) (stab : ∀ k, U (k + 1) = U k → U (k + 2) = U (k + 1)) : ∀ k, U (k + 1) = U k ∨ k + hp_c (U 0) 24 ≤ hp_c (U k) 24
  | 0 => Or.inr (by omega)
  | k + 1 => by
    by_cases e : U (k + 2) = U (k + 1)
    · exact Or.inl e
    · refine Or.inr ?_
      have ne : ¬ U (k + 1) = U k := fun z => e (stab k z)
      have ih := (hp_pg U hS inc stab k).resolve_left ne
      have : ∃ a, ¬ bt (U k) a = true ∧ bt (U (k + 1)) a = true := by
        apply Classical.byContradiction
        intro h
        exact ne (hp_ext fun i => ⟨fun z => Classical.byContradiction fun y => h ⟨i, y, z⟩, inc k i⟩)
      obtain ⟨a, h1, h2⟩ := this
      have := hp_c_lt h1 h2 24 (fun i _ => inc k i) (hS _ a h2)
      omega
theorem hp_pg24 (U : Nat → Int32) (hS : ∀ k, hp_S (U k)) (inc : ∀ k i, bt (U k) i = true → bt (U (k + 1)) i = true) (stab : ∀ k, U (k + 1) = U k → U (k + 2) = U (k + 1)) : U 25 = U 24 := by
  rcases hp_pg U hS inc stab 24 with h | h
  · exact h
  · have f := hp_c_full 24 (by omega : 24 ≤ hp_c (U 24) 24)
    exact hp_ext fun i => ⟨fun z => f i (hS _ i z), inc 24 i⟩
theorem hp_pg23 (U : Nat → Int32) (hS : ∀ k, hp_S (U k)) (inc : ∀ k i, bt (U k) i = true → bt (U (k + 1)) i = true) (stab : ∀ k, U (k + 1) = U k → U (k + 2) = U (k + 1)) (h0 : 0 < hp_c (U 0) 24) : U 24 = U 23 := by
  rcases hp_pg U hS inc stab 23 with h | h
  · exact h
  · have f := hp_c_full 24 (by omega : 24 ≤ hp_c (U 23) 24)
    exact hp_ext fun i => ⟨fun z => f i (hS _ i z), inc 23 i⟩
theorem hp_still (U : Nat → Int32) (stab : ∀ k, U (k + 1) = U k → U (k + 2) = U (k + 1)) {k : Nat} (h : U (k + 1) = U k) : ∀ d, U (k + d + 1) = U (k + d) ∧ U (k + d) = U k
  | 0 => ⟨h, rfl⟩
  | d + 1 => by
    have ⟨a, b⟩ := hp_still U stab h d
    exact ⟨stab (k + d) a, a.trans b⟩
end
section
/-! the graph of a place: successors, roots, closures, what sweep leaves -/
/-- field of object a of place w refers to p -/
def hp_E (F : Nat → Int32) (w a p : Nat) : Prop := ∃ m, m < 96 ∧ m / 4 = a ∧ F (96 * w + m) = nI p
noncomputable def hp_suc (F : Nat → Int32) (w : Nat) (s : Int32) : Int32 := hp_mk (fun p => hp_d (∃ a, bt s a = true ∧ hp_E F w a p)) 24
theorem hp_suc_iff {F : Nat → Int32} {w : Nat} {s : Int32} {p : Nat} : bt (hp_suc F w s) p = true ↔ p < 24 ∧ ∃ a, bt s a = true ∧ hp_E F w a p := by
  unfold hp_suc
  rw [hp_mk24, hp_d_iff]
theorem hp_suc_S (F : Nat → Int32) (w : Nat) (s : Int32) : hp_S (hp_suc F w s) := hp_mk_S _
noncomputable def hp_rts (R : Nat → Int32) (w : Nat) : Int32 := hp_mk (fun p => hp_d (∃ r, r < 4 ∧ R (4 * w + r) = nI p)) 24
theorem hp_rts_iff {R : Nat → Int32} {w p : Nat} : bt (hp_rts R w) p = true ↔ p < 24 ∧ ∃ r, r < 4 ∧ R (4 * w + r) = nI p := by
  unfold hp_rts
  rw [hp_mk24, hp_d_iff]
theorem hp_rts_S (R : Nat → Int32) (w : Nat) : hp_S (hp_rts R w) := hp_mk_S _
/-- from s, in k steps, barred ones b neither met nor passed -/
noncomputable def hp_it (F : Nat → Int32) (w : Nat) (s b : Int32) : Nat → Int32
  | 0 => s &&& (b ^^^ (-1))
  | k + 1 => hp_it F w s b k ||| (hp_suc F w (hp_it F w s b k) &&& (b ^^^ (-1)))
noncomputable def hp_clo (F : Nat → Int32) (w : Nat) (s b : Int32) : Int32 := hp_it F w s b 24
theorem hp_it_s (F : Nat → Int32) (w : Nat) (s b : Int32) (k : Nat) : hp_it F w s b (k + 1) = hp_it F w s b k ||| (hp_suc F w (hp_it F w s b k) &&& (b ^^^ (-1))) := rfl
theorem hp_it_S {F : Nat → Int32} {w : Nat} {s b : Int32} (hs : hp_S s) : ∀ k, hp_S (hp_it F w s b k)
  | 0 => hp_S_and hs
  | k + 1 => hp_S_or (hp_it_S hs k) (hp_S_and (hp_suc_S F w _))
theorem hp_it_inc (F : Nat → Int32) (w : Nat) (s b : Int32) (k i : Nat) (h : bt (hp_it F w s b k) i = true) : bt (hp_it F w s b (k + 1)) i = true := by
  rw [hp_it_s]; exact hp_or_iff.mpr (Or.inl h)
theorem hp_it_stab (F : Nat → Int32) (w : Nat) (s b : Int32) (k : Nat) (h : hp_it F w s b (k + 1) = hp_it F w s b k) : hp_it F w s b (k + 2) = hp_it F w s b (k + 1) := by
  rw [hp_it_s F w s b (k + 1), h, ← hp_it_s, h]
theorem hp_it_mono {F : Nat → Int32} {w : Nat} {s b : Int32} {k i : Nat} (h : bt (hp_it F w s b k) i = true) : ∀ d, bt (hp_it F w s b (k + d)) i = true
  | 0 => h
  | d + 1 => hp_it_inc F w s b (k + d) i (hp_it_mono h d)
theorem hp_it_25 {F : Nat → Int32} {w : Nat} {s b : Int32} (hs : hp_S s) : hp_it F w s b 25 = hp_clo F w s b := hp_pg24 (hp_it F w s b) (hp_it_S hs) (hp_it_inc F w s b) (hp_it_stab F w s b)
theorem hp_it_still {F : Nat → Int32} {w : Nat} {s b : Int32} {k : Nat} (hk : k ≤ 24) (h : hp_it F w s b (k + 1) = hp_it F w s b k) : hp_it F w s b k = hp_clo F w s b := by
  have := (hp_still (hp_it F w s b) (hp_it_stab F w s b) h (24 - k)).2
  rw [show k + (24 - k) = 24 by omega] at this
  exact this.symm
theorem hp_clo_S {F : Nat → Int32} {w : Nat} {s b : Int32} (hs : hp_S s) : hp_S (hp_clo F w s b) := hp_it_S hs 24
theorem hp_clo_start {F : Nat → Int32} {w : Nat} {s b : Int32} {i : Nat} (h : bt s i = true) (hb : ¬ bt b i = true) : bt (hp_clo F w s b) i = true := by
  have := hp_it_mono (F := F) (w := w) (s := s) (b := b) (k := 0) (i := i) (hp_andn_iff.mpr ⟨h, hb⟩) 24
  rw [Nat.zero_add] at this
  exact this
theorem hp_clo_step {F : Nat → Int32} {w : Nat} {s b : Int32} (hs : hp_S s) {a p : Nat} (h : bt (hp_clo F w s b) a = true) (he : hp_E F w a p) (hp : p < 24) (hb : ¬ bt b p = true) : bt (hp_clo F w s b) p = true := by
  rw [← hp_it_25 hs, hp_it_s]
  exact hp_or_iff.mpr (Or.inr (hp_andn_iff.mpr ⟨hp_suc_iff.mpr ⟨hp, a, h, he⟩, hb⟩))
theorem hp_it_ind {F : Nat → Int32} {w : Nat} {s b : Int32} (T : Nat → Prop) (h0 : ∀ i, bt s i = true → ¬ bt b i = true → T i) (h1 : ∀ a p, T a → hp_E F w a p → p < 24 → ¬ bt b p = true → T p) : ∀ k i, bt (hp_it F w s b k) i = true → T i
  | 0 => fun i h => h0 i (hp_andn_iff.mp h).1 (hp_andn_iff.mp h).2
  | k + 1 => fun i h => by
    rw [hp_it_s] at h
    rcases hp_or_iff.mp h with h | h
    · exact hp_it_ind T h0 h1 k i h
    · obtain ⟨h2, h3⟩ := hp_andn_iff.mp h
      obtain ⟨h4, a, h5, h6⟩ := hp_suc_iff.mp h2
      exact h1 a i (hp_it_ind T h0 h1 k a h5) h6 h4 h3
theorem hp_clo_ind {F : Nat → Int32} {w : Nat} {s b : Int32} (T : Nat → Prop) (h0 : ∀ i, bt s i = true → ¬ bt b i = true → T i) (h1 : ∀ a p, T a → hp_E F w a p → p < 24 → ¬ bt b p = true → T p) {i : Nat} (h : bt (hp_clo F w s b) i = true) : T i := hp_it_ind T h0 h1 24 i h
theorem hp_clo_b {F : Nat → Int32} {w : Nat} {s b : Int32} {i : Nat} (h : bt (hp_clo F w s b) i = true) : ¬ bt b i = true :=
  hp_clo_ind (fun i => ¬ bt b i = true) (fun _ _ h => h) (fun _ _ _ _ _ h => h) h
/-- what both sides' loops find: between the closure and a closed set there is nothing -/
theorem hp_clo_uniq {F : Nat → Int32} {w : Nat} {s b t : Int32} (h0 : ∀ i, bt s i = true → ¬ bt b i = true → bt t i = true) (h1 : ∀ a p, bt t a = true → hp_E F w a p → p < 24 → ¬ bt b p = true → bt t p = true) (h2 : ∀ i, bt t i = true → bt (hp_clo F w s b) i = true) : t = hp_clo F w s b :=
  hp_ext fun i => ⟨h2 i, hp_clo_ind (fun i => bt t i = true) h0 h1⟩
/-- only the barred ones that are alive count -/
theorem hp_clo_bar {F : Nat → Int32} {w : Nat} {s b c : Int32} (hs : hp_S s) (h : ∀ i, bt (hp_clo F w s 0) i = true → (bt b i = true ↔ bt c i = true)) : hp_clo F w s b = hp_clo F w s c := by
  have key : ∀ x y : Int32, (∀ i, bt (hp_clo F w s 0) i = true → (bt x i = true ↔ bt y i = true)) → ∀ i, bt (hp_clo F w s x) i = true → bt (hp_clo F w s y) i = true := by
    intro x y hxy i hi
    refine (hp_clo_ind (F := F) (w := w) (s := s) (b := x) (fun i => bt (hp_clo F w s 0) i = true ∧ bt (hp_clo F w s y) i = true) ?_ ?_ hi).2
    · intro i h1 h2
      have l := hp_clo_start (F := F) (w := w) (b := 0) h1 hp_0
      exact ⟨l, hp_clo_start h1 (fun z => h2 ((hxy i l).mpr z))⟩
    · intro a p ⟨h1, h2⟩ he hp hb
      have l := hp_clo_step hs h1 he hp hp_0
      exact ⟨l, hp_clo_step hs h2 he hp (fun z => hb ((hxy p l).mpr z))⟩
  exact hp_ext fun i => ⟨key b c h i, key c b (fun i hi => (h i hi).symm) i⟩
/-- barred ones make it no greater -/
theorem hp_clo_sub {F : Nat → Int32} {w : Nat} {s b : Int32} (hs : hp_S s) {i : Nat} (h : bt (hp_clo F w s b) i = true) : bt (hp_clo F w s 0) i = true :=
  hp_clo_ind (fun i => bt (hp_clo F w s 0) i = true) (fun _ h _ => hp_clo_start h hp_0) (fun _ _ h he hp _ => hp_clo_step hs h he hp hp_0) h
/-! what sweep leaves -/
noncomputable def hp_sw (F : Nat → Int32) (r P : Int32) : Nat → Int32
  | 0 => P
  | k + 1 => hp_sw F r P k &&& (r ||| hp_suc F 0 (hp_sw F r P k))
theorem hp_sw_s (F : Nat → Int32) (r P : Int32) (k : Nat) : hp_sw F r P (k + 1) = hp_sw F r P k &&& (r ||| hp_suc F 0 (hp_sw F r P k)) := rfl
theorem hp_sw_dec (F : Nat → Int32) (r P : Int32) (k i : Nat) (h : bt (hp_sw F r P (k + 1)) i = true) : bt (hp_sw F r P k) i = true := by
  rw [hp_sw_s] at h; exact (hp_and_iff.mp h).1
theorem hp_sw_stab (F : Nat → Int32) (r P : Int32) (k : Nat) (h : hp_sw F r P (k + 1) = hp_sw F r P k) : hp_sw F r P (k + 2) = hp_sw F r P (k + 1) := by
  rw [hp_sw_s F r P (k + 1), h, ← hp_sw_s, h]
theorem hp_sw_P (F : Nat → Int32) (r P : Int32) : ∀ k i, bt (hp_sw F r P k) i = true → bt P i = true
  | 0 => fun _ h => h
  | k + 1 => fun i h => hp_sw_P F r P k i (hp_sw_dec F r P k i h)
theorem hp_sw_S {F : Nat → Int32} {r P : Int32} (hP : hp_S P) (k : Nat) : hp_S (hp_sw F r P k) := fun i h => hP i (hp_sw_P F r P k i h)
theorem hp_sw_lt {F : Nat → Int32} {r P : Int32} (hP : hp_S P) {k : Nat} (ne : ¬ hp_sw F r P (k + 1) = hp_sw F r P k) : hp_c (hp_sw F r P (k + 1)) 24 < hp_c (hp_sw F r P k) 24 := by
  have : ∃ a, ¬ bt (hp_sw F r P (k + 1)) a = true ∧ bt (hp_sw F r P k) a = true := by
    apply Classical.byContradiction
    intro h
    exact ne (hp_ext fun i => ⟨hp_sw_dec F r P k i, fun z => Classical.byContradiction fun y => h ⟨i, y, z⟩⟩)
  obtain ⟨a, h1, h2⟩ := this
  exact hp_c_lt h1 h2 24 (fun i _ => hp_sw_dec F r P k i) (hp_sw_S hP _ a h2)
theorem hp_sw_pg {F : Nat → Int32} {r P : Int32} (hP : hp_S P) : ∀ k, hp_sw F r P (k + 1) = hp_sw F r P k ∨ k + hp_c (hp_sw F r P k) 24 ≤ 24
  | 0 => Or.inr (by have := hp_c_le (hp_sw F r P 0) 24; omega)
  | k + 1 => by
    by_cases e : hp_sw F r P (k + 2) = hp_sw F r P (k + 1)
    · exact Or.inl e
    · have ne : ¬ hp_sw F r P (k + 1) = hp_sw F r P k := fun z => e (hp_sw_stab F r P k z)
      have ih := (hp_sw_pg hP k).resolve_left ne
      have := hp_sw_lt hP ne
      exact Or.inr (by omega)
theorem hp_sw_25 {F : Nat → Int32} {r P : Int32} (hP : hp_S P) : hp_sw F r P 25 = hp_sw F r P 24 := by
  rcases hp_sw_pg (F := F) (r := r) hP 24 with h | h
  · exact h
  · have z := hp_c_zero (s := hp_sw F r P 24) 24 (by omega)
    exact hp_ext fun i => ⟨hp_sw_dec F r P 24 i, fun y => absurd y (z i (hp_sw_S hP 24 i y))⟩
theorem hp_sw_end {F : Nat → Int32} {r P : Int32} (hP : hp_S P) {k : Nat} (h : hp_sw F r P (k + 1) = hp_sw F r P k) : hp_sw F r P k = hp_sw F r P 24 := by
  rcases Nat.le_total k 24 with l | l
  · have := (hp_still (hp_sw F r P) (hp_sw_stab F r P) h (24 - k)).2
    rw [show k + (24 - k) = 24 by omega] at this
    exact this.symm
  · have := (hp_still (hp_sw F r P) (hp_sw_stab F r P) (hp_sw_25 hP) (k - 24)).2
    rw [show 24 + (k - 24) = k by omega] at this
    exact this
/-- what roots refer to is left -/
theorem hp_sw_root {F : Nat → Int32} {r P : Int32} {i : Nat} (h : bt r i = true) (hP : bt P i = true) : ∀ k, bt (hp_sw F r P k) i = true
  | 0 => hP
  | k + 1 => by
    rw [hp_sw_s]
    exact hp_and_iff.mpr ⟨hp_sw_root h hP k, hp_or_iff.mpr (Or.inl h)⟩
/-- what one that is left refers to is left -/
theorem hp_sw_ref {F : Nat → Int32} {r P : Int32} {a p : Nat} (he : hp_E F 0 a p) (hp : p < 24) (hP : bt P p = true) : ∀ k, bt (hp_sw F r P k) a = true → bt (hp_sw F r P k) p = true
  | 0 => fun _ => hP
  | k + 1 => fun h => by
    have h' := hp_sw_dec F r P k a h
    rw [hp_sw_s]
    exact hp_and_iff.mpr ⟨hp_sw_ref he hp hP k h', hp_or_iff.mpr (Or.inr (hp_suc_iff.mpr ⟨hp, a, h', he⟩))⟩
/-! the state that both sides share -/
def hp_ok (P F R : Nat → Int32) : Prop :=
  (∀ w, w < 3 → hp_S (P w)) ∧ (∀ i, i < 288 → F i = -1 ∨ ∃ p, p < 24 ∧ F i = nI p) ∧ (∀ w r, w < 3 → r < 4 → R (4 * w + r) = -1 ∨ ∃ p, p < 24 ∧ R (4 * w + r) = nI p ∧ bt (P w) p = true) ∧ (∀ w m p, w < 3 → m < 96 → p < 24 → bt (P w) (m / 4) = true → F (96 * w + m) = nI p → bt (P w) p = true)
theorem hp_nI_inj {a b : Nat} (ha : a < 24) (hb : b < 24) (h : nI a = nI b) : a = b := (nI_eq (by omega) (by omega)).mp h
/-- alive ones are there -/
theorem hp_alive {P F R : Nat → Int32} (ok : hp_ok P F R) {w : Nat} (hw : w < 3) {b : Int32} {i : Nat} (h : bt (hp_clo F w (hp_rts R w) b) i = true) : bt (P w) i = true := by
  refine hp_clo_ind (fun i => bt (P w) i = true) ?_ ?_ h
  · intro i h1 _
    obtain ⟨hi, r, hr, e⟩ := hp_rts_iff.mp h1
    rcases ok.2.2.1 w r hw hr with z | ⟨p, hp, e2, hb⟩
    · rw [e] at z; exact absurd z (hp_nI_ne (by omega))
    · rw [e] at e2
      rw [hp_nI_inj hi hp e2]
      exact hb
  · intro a p ha ⟨m, hm, e1, e2⟩ hp _
    exact ok.2.2.2 w m p hw hm hp (by rw [e1]; exact ha) e2
theorem hp_step_P {P F R : Nat → Int32} (ok : hp_ok P F R) {w : Nat} (hw : w < 3) {a p : Nat} (hp : p < 24) (ha : bt (P w) a = true) (he : hp_E F w a p) : bt (P w) p = true := by
  obtain ⟨m, hm, e1, e2⟩ := he
  exact ok.2.2.2 w m p hw hm hp (by rw [e1]; exact ha) e2
end
section
/-! dominators and rings -/
abbrev hp_o (a : Nat) : Int32 := (1 : Int32) <<< (nI a &&& 31)
noncomputable def hp_lost (F : Nat → Int32) (w : Nat) (s b : Int32) : Int32 := hp_clo F w s 0 &&& (hp_clo F w s b ^^^ (-1))
theorem hp_lost_iff {F : Nat → Int32} {w : Nat} {s b : Int32} {i : Nat} : bt (hp_lost F w s b) i = true ↔ bt (hp_clo F w s 0) i = true ∧ ¬ bt (hp_clo F w s b) i = true := hp_andn_iff
theorem hp_lost_S {F : Nat → Int32} {w : Nat} {s b : Int32} (hs : hp_S s) : hp_S (hp_lost F w s b) := fun i h => hp_clo_S hs i (hp_lost_iff.mp h).1
section
variable {F : Nat → Int32} {w : Nat} {s : Int32}
theorem hp_dm_alive (hs : hp_S s) {a o : Nat} (ha : a < 24) (h : bt (hp_lost F w s (hp_o a)) o = true) : bt (hp_clo F w s 0) a = true := by
  apply Classical.byContradiction
  intro n
  obtain ⟨h1, h2⟩ := hp_lost_iff.mp h
  have e : hp_clo F w s (hp_o a) = hp_clo F w s 0 := by
    refine hp_clo_bar hs fun i hi => ?_
    rw [hp_one_iff (by omega : a < 32)]
    exact ⟨fun z => absurd (z ▸ hi) n, fun z => absurd z hp_0⟩
  rw [e] at h2
  exact h2 h1
theorem hp_dm_self {a : Nat} (ha : a < 24) (h : bt (hp_clo F w s 0) a = true) : bt (hp_lost F w s (hp_o a)) a = true :=
  hp_lost_iff.mpr ⟨h, fun z => hp_clo_b z ((hp_one_iff (by omega)).mpr rfl)⟩
theorem hp_dm_total (hs : hp_S s) {a b o : Nat} (ha : a < 24) (hb : b < 24) (hab : ¬ a = b) (h1 : bt (hp_lost F w s (hp_o a)) o = true) (h2 : bt (hp_lost F w s (hp_o b)) o = true) : bt (hp_lost F w s (hp_o a)) b = true ∨ bt (hp_lost F w s (hp_o b)) a = true := by
  apply Classical.byContradiction
  intro n
  have aa := hp_dm_alive hs ha h1
  have ab := hp_dm_alive hs hb h2
  have nb : bt (hp_clo F w s (hp_o a)) b = true := Classical.byContradiction fun z => n (Or.inl (hp_lost_iff.mpr ⟨ab, z⟩))
  have na : bt (hp_clo F w s (hp_o b)) a = true := Classical.byContradiction fun z => n (Or.inr (hp_lost_iff.mpr ⟨aa, z⟩))
  have key : bt (hp_clo F w s (hp_o a)) o = true ∨ bt (hp_clo F w s (hp_o b)) o = true := by
    refine hp_clo_ind (F := F) (w := w) (s := s) (b := 0) (fun i => bt (hp_clo F w s (hp_o a)) i = true ∨ bt (hp_clo F w s (hp_o b)) i = true) ?_ ?_ (hp_lost_iff.mp h1).1
    · intro i hi _
      by_cases z : i = a
      · exact Or.inr (z ▸ na)
      · exact Or.inl (hp_clo_start hi (fun y => z ((hp_one_iff (by omega)).mp y)))
    · intro x p hx he hp _
      rcases hx with hx | hx
      · by_cases z : p = a
        · exact Or.inr (z ▸ na)
        · exact Or.inl (hp_clo_step hs hx he hp (fun y => z ((hp_one_iff (by omega)).mp y)))
      · by_cases z : p = b
        · exact Or.inl (z ▸ nb)
        · exact Or.inr (hp_clo_step hs hx he hp (fun y => z ((hp_one_iff (by omega)).mp y)))
  exact key.elim (hp_lost_iff.mp h1).2 (hp_lost_iff.mp h2).2
theorem hp_dm_sub (hs : hp_S s) {a b : Nat} (ha : a < 24) (h : bt (hp_lost F w s (hp_o b)) a = true) {i : Nat} (hi : bt (hp_lost F w s (hp_o a)) i = true) : bt (hp_lost F w s (hp_o b)) i = true := by
  obtain ⟨_, na⟩ := hp_lost_iff.mp h
  obtain ⟨h1, h2⟩ := hp_lost_iff.mp hi
  refine hp_lost_iff.mpr ⟨h1, fun z => h2 ?_⟩
  refine (hp_clo_ind (F := F) (w := w) (s := s) (b := hp_o b) (fun i => bt (hp_clo F w s (hp_o b)) i = true ∧ bt (hp_clo F w s (hp_o a)) i = true) ?_ ?_ z).2
  · intro i h3 h4
    have l := hp_clo_start (F := F) (w := w) h3 h4
    exact ⟨l, hp_clo_start h3 (fun y => na ((hp_one_iff (by omega)).mp y ▸ l))⟩
  · intro x p ⟨h3, h4⟩ he hp h5
    have l := hp_clo_step hs h3 he hp h5
    exact ⟨l, hp_clo_step hs h4 he hp (fun y => na ((hp_one_iff (by omega)).mp y ▸ l))⟩
theorem hp_dm_anti (hs : hp_S s) {a b : Nat} (ha : a < 24) (hb : b < 24) (hab : ¬ a = b) (h1 : bt (hp_lost F w s (hp_o a)) b = true) (h2 : bt (hp_lost F w s (hp_o b)) a = true) : False := by
  obtain ⟨_, n1⟩ := hp_lost_iff.mp h1
  obtain ⟨a1, n2⟩ := hp_lost_iff.mp h2
  have key : bt (hp_clo F w s (hp_o a)) a = true ∧ bt (hp_clo F w s (hp_o b)) a = true := by
    refine hp_clo_ind (F := F) (w := w) (s := s) (b := 0) (fun i => bt (hp_clo F w s (hp_o a)) i = true ∧ bt (hp_clo F w s (hp_o b)) i = true) ?_ ?_ a1
    · intro i hi _
      have x1 : ¬ i = a := fun z => n2 (by subst z; exact hp_clo_start hi (fun y => hab ((hp_one_iff (by omega)).mp y)))
      have x2 : ¬ i = b := fun z => n1 (by subst z; exact hp_clo_start hi (fun y => hab ((hp_one_iff (by omega)).mp y).symm))
      exact ⟨hp_clo_start hi (fun y => x1 ((hp_one_iff (by omega)).mp y)), hp_clo_start hi (fun y => x2 ((hp_one_iff (by omega)).mp y))⟩
    · intro x p ⟨h3, h4⟩ he hp _
      have x1 : ¬ p = a := fun z => n2 (by subst z; exact hp_clo_step hs h4 he hp (fun y => hab ((hp_one_iff (by omega)).mp y)))
      have x2 : ¬ p = b := fun z => n1 (by subst z; exact hp_clo_step hs h3 he hp (fun y => hab ((hp_one_iff (by omega)).mp y).symm))
      exact ⟨hp_clo_step hs h3 he hp (fun y => x1 ((hp_one_iff (by omega)).mp y)), hp_clo_step hs h4 he hp (fun y => x2 ((hp_one_iff (by omega)).mp y))⟩
  exact hp_clo_b key.1 ((hp_one_iff (by omega)).mpr rfl)
/-- the dominators of o -/
def hp_D (F : Nat → Int32) (w : Nat) (s : Int32) (o a : Nat) : Prop := a < 24 ∧ ¬ a = o ∧ bt (hp_lost F w s (hp_o a)) o = true
/-- the dominator of o: it dominates no other dominator of o -/
def hp_DM (F : Nat → Int32) (w : Nat) (s : Int32) (o a : Nat) : Prop := hp_D F w s o a ∧ ∀ b, hp_D F w s o b → bt (hp_lost F w s (hp_o a)) b = true → b = a
theorem hp_DM_uniq (hs : hp_S s) {o a b : Nat} (h1 : hp_DM F w s o a) (h2 : hp_DM F w s o b) : a = b := by
  apply Classical.byContradiction
  intro n
  rcases hp_dm_total hs h1.1.1 h2.1.1 n h1.1.2.2 h2.1.2.2 with z | z
  · exact n (h1.2 b h2.1 z).symm
  · exact n (h2.2 a h1.1 z)
theorem hp_DM_min (hs : hp_S s) {o a : Nat} (h : hp_D F w s o a) (hm : ∀ b, hp_D F w s o b → hp_c (hp_lost F w s (hp_o a)) 24 ≤ hp_c (hp_lost F w s (hp_o b)) 24) : hp_DM F w s o a := by
  refine ⟨h, fun b hb hl => Classical.byContradiction fun n => ?_⟩
  have lt := hp_c_lt (s := hp_lost F w s (hp_o b)) (t := hp_lost F w s (hp_o a)) (a := a) (fun z => hp_dm_anti hs h.1 hb.1 (fun y => n y.symm) hl z) (hp_dm_self h.1 (hp_dm_alive hs h.1 h.2.2)) 24 (fun i _ hi => hp_dm_sub hs hb.1 hl hi) h.1
  have := hm b hb
  omega
/-! rings -/
noncomputable def hp_af (F : Nat → Int32) (w o : Nat) : Int32 := hp_clo F w (hp_suc F w (hp_o o)) 0
theorem hp_af_S (F : Nat → Int32) (w o : Nat) : hp_S (hp_af F w o) := hp_clo_S (hp_suc_S F w _)
theorem hp_af_one {o p : Nat} (ho : o < 24) (hp : p < 24) (he : hp_E F w o p) : bt (hp_af F w o) p = true :=
  hp_clo_start (hp_suc_iff.mpr ⟨hp, o, (hp_one_iff (by omega)).mpr rfl, he⟩) hp_0
theorem hp_af_step {o a p : Nat} (h : bt (hp_af F w o) a = true) (hp : p < 24) (he : hp_E F w a p) : bt (hp_af F w o) p = true :=
  hp_clo_step (hp_suc_S F w _) h he hp hp_0
theorem hp_af_ind {o : Nat} (ho : o < 24) (T : Nat → Prop) (h0 : ∀ p, p < 24 → hp_E F w o p → T p) (h1 : ∀ a p, T a → hp_E F w a p → p < 24 → T p) {i : Nat} (h : bt (hp_af F w o) i = true) : T i := by
  refine hp_clo_ind T ?_ (fun a p h he hp _ => h1 a p h he hp) h
  intro i hi _
  obtain ⟨h2, a, h3, h4⟩ := hp_suc_iff.mp hi
  rw [hp_one_iff (by omega)] at h3
  exact h0 i h2 (h3 ▸ h4)
theorem hp_af_trans {o p q : Nat} (hp : p < 24) (h1 : bt (hp_af F w o) p = true) (h2 : bt (hp_af F w p) q = true) : bt (hp_af F w o) q = true :=
  hp_af_ind hp (fun i => bt (hp_af F w o) i = true) (fun _ hi he => hp_af_step h1 hi he) (fun _ _ ha he hi => hp_af_step ha hi he) h2
noncomputable def hp_ring (F : Nat → Int32) (w o : Nat) : Int32 := hp_mk (fun p => bt (hp_af F w o) p && bt (hp_af F w p) o) 24
theorem hp_ring_iff {o p : Nat} : bt (hp_ring F w o) p = true ↔ p < 24 ∧ bt (hp_af F w o) p = true ∧ bt (hp_af F w p) o = true := by
  unfold hp_ring
  rw [hp_mk24, Bool.and_eq_true]
theorem hp_ring_S (F : Nat → Int32) (w o : Nat) : hp_S (hp_ring F w o) := hp_mk_S _
theorem hp_ring_sym {o p : Nat} (ho : o < 24) (h : bt (hp_ring F w o) p = true) : bt (hp_ring F w p) o = true := by
  obtain ⟨_, h2, h3⟩ := hp_ring_iff.mp h
  exact hp_ring_iff.mpr ⟨ho, h3, h2⟩
theorem hp_ring_self {o p : Nat} (ho : o < 24) (h : bt (hp_ring F w o) p = true) : bt (hp_ring F w o) o = true := by
  obtain ⟨h1, h2, h3⟩ := hp_ring_iff.mp h
  have := hp_af_trans h1 h2 h3
  exact hp_ring_iff.mpr ⟨ho, this, this⟩
theorem hp_ring_eq {o a : Nat} (ha : a < 24) (h : bt (hp_ring F w a) o = true) : hp_ring F w o = hp_ring F w a := by
  obtain ⟨h1, h2, h3⟩ := hp_ring_iff.mp h
  refine hp_ext fun q => ?_
  rw [hp_ring_iff, hp_ring_iff]
  exact ⟨fun ⟨x, y, z⟩ => ⟨x, hp_af_trans h1 h2 y, hp_af_trans h1 z h3⟩, fun ⟨x, y, z⟩ => ⟨x, hp_af_trans ha h3 y, hp_af_trans ha z h2⟩⟩
theorem hp_ring_none {o : Nat} (ho : o < 24) (h : ¬ bt (hp_af F w o) o = true) : hp_ring F w o = 0 := by
  refine hp_ext fun q => ⟨fun z => ?_, fun z => absurd z hp_0⟩
  exact absurd (hp_ring_iff.mp (hp_ring_self ho z)).2.1 h
theorem hp_ring_alive (hs : hp_S s) {o p : Nat} (ho : bt (hp_clo F w s 0) o = true) (h : bt (hp_ring F w o) p = true) : bt (hp_clo F w s 0) p = true := by
  obtain ⟨h1, h2, h3⟩ := hp_ring_iff.mp h
  exact hp_af_ind (hp_clo_S hs o ho) (fun i => bt (hp_clo F w s 0) i = true) (fun _ hi he => hp_clo_step hs ho he hi hp_0) (fun _ _ ha he hi => hp_clo_step hs ha he hi hp_0) h2
end
end
section
/-! ways: walks of k references, the levels from the roots, the sets that come to o, distances -/
section
variable {F R : Nat → Int32} {w : Nat} {Z : Int32}
/-- b is come to from a by k references, each of an object of Z -/
def hp_wk (F : Nat → Int32) (w : Nat) (Z : Int32) : Nat → Nat → Nat → Prop
  | 0, a, b => a = b
  | k + 1, a, b => ∃ c, c < 24 ∧ bt Z a = true ∧ hp_E F w a c ∧ hp_wk F w Z k c b
theorem hp_wk_snoc : ∀ {k a b c : Nat}, hp_wk F w Z k a b → bt Z b = true → hp_E F w b c → c < 24 → hp_wk F w Z (k + 1) a c
  | 0, a, b, c => fun h hb he hc => ⟨c, hc, h ▸ hb, h ▸ he, rfl⟩
  | k + 1, a, b, c => fun ⟨d, h1, h2, h3, h4⟩ hb he hc => ⟨d, h1, h2, h3, hp_wk_snoc h4 hb he hc⟩
theorem hp_wk_last : ∀ {k a b : Nat}, hp_wk F w Z (k + 1) a b → ∃ c, hp_wk F w Z k a c ∧ bt Z c = true ∧ hp_E F w c b ∧ b < 24
  | 0, a, b => fun ⟨d, h1, h2, h3, h4⟩ => by
    cases h4
    exact ⟨a, rfl, h2, h3, h1⟩
  | k + 1, a, b => fun ⟨d, h1, h2, h3, h4⟩ => by
    obtain ⟨c, h5, h6, h7, h8⟩ := hp_wk_last h4
    exact ⟨c, ⟨d, h1, h2, h3, h5⟩, h6, h7, h8⟩
noncomputable def hp_pre (F : Nat → Int32) (w : Nat) (Z s : Int32) : Int32 := hp_mk (fun a => hp_d (bt Z a = true ∧ ∃ p, p < 24 ∧ bt s p = true ∧ hp_E F w a p)) 24
theorem hp_pre_iff {s : Int32} {a : Nat} : bt (hp_pre F w Z s) a = true ↔ a < 24 ∧ bt Z a = true ∧ ∃ p, p < 24 ∧ bt s p = true ∧ hp_E F w a p := by
  unfold hp_pre
  rw [hp_mk24, hp_d_iff]
/-- those that come to o by exactly k references -/
noncomputable def hp_ct (F : Nat → Int32) (w : Nat) (Z : Int32) (o : Nat) : Nat → Int32
  | 0 => hp_o o
  | k + 1 => hp_pre F w Z (hp_ct F w Z o k)
theorem hp_ct_iff (hZ : hp_S Z) {o : Nat} (ho : o < 24) : ∀ k a, bt (hp_ct F w Z o k) a = true ↔ a < 24 ∧ hp_wk F w Z k a o
  | 0 => fun a => by
    show bt (hp_o o) a = true ↔ a < 24 ∧ a = o
    rw [hp_one_iff (by omega)]
    exact ⟨fun h => ⟨by omega, h⟩, fun h => h.2⟩
  | k + 1 => fun a => by
    show bt (hp_pre F w Z (hp_ct F w Z o k)) a = true ↔ a < 24 ∧ ∃ c, c < 24 ∧ bt Z a = true ∧ hp_E F w a c ∧ hp_wk F w Z k c o
    rw [hp_pre_iff]
    constructor
    · rintro ⟨h1, h2, p, h3, h4, h5⟩
      exact ⟨h1, p, h3, h2, h5, ((hp_ct_iff hZ ho k p).mp h4).2⟩
    · rintro ⟨h1, p, h3, h2, h5, h4⟩
      exact ⟨h1, h2, p, h3, (hp_ct_iff hZ ho k p).mpr ⟨h3, h4⟩, h5⟩
/-- those that come to o by at most k references -/
noncomputable def hp_bk (F : Nat → Int32) (w : Nat) (Z : Int32) (o : Nat) : Nat → Int32
  | 0 => hp_o o
  | k + 1 => hp_bk F w Z o k ||| hp_pre F w Z (hp_bk F w Z o k)
theorem hp_bk_iff {o : Nat} (ho : o < 24) : ∀ k a, bt (hp_bk F w Z o k) a = true ↔ a < 24 ∧ ∃ j, j ≤ k ∧ hp_wk F w Z j a o
  | 0 => fun a => by
    show bt (hp_o o) a = true ↔ _
    rw [hp_one_iff (by omega)]
    constructor
    · intro h; exact ⟨by omega, 0, Nat.le_refl 0, h⟩
    · rintro ⟨_, j, hj, h⟩
      cases Nat.le_zero.mp hj
      exact h
  | k + 1 => fun a => by
    show bt (hp_bk F w Z o k ||| hp_pre F w Z (hp_bk F w Z o k)) a = true ↔ _
    rw [hp_or_iff, hp_pre_iff, hp_bk_iff ho k a]
    constructor
    · rintro (⟨h1, j, h2, h3⟩ | ⟨h1, h2, p, h3, h4, h5⟩)
      · exact ⟨h1, j, by omega, h3⟩
      · obtain ⟨_, j, h6, h7⟩ := (hp_bk_iff ho k p).mp h4
        exact ⟨h1, j + 1, by omega, p, h3, h2, h5, h7⟩
    · rintro ⟨h1, j, h2, h3⟩
      cases j with
      | zero => exact Or.inl ⟨h1, 0, by omega, h3⟩
      | succ j =>
        obtain ⟨p, h4, h5, h6, h7⟩ := h3
        exact Or.inr ⟨h1, h5, p, h4, (hp_bk_iff ho k p).mpr ⟨h4, j, by omega, h7⟩, h6⟩
theorem hp_bk_S {o : Nat} (ho : o < 24) (k : Nat) : hp_S (hp_bk F w Z o k) := fun a h => ((hp_bk_iff ho k a).mp h).1
theorem hp_bk_inc (k i : Nat) {o : Nat} (h : bt (hp_bk F w Z o k) i = true) : bt (hp_bk F w Z o (k + 1)) i = true := by
  show bt (hp_bk F w Z o k ||| hp_pre F w Z (hp_bk F w Z o k)) i = true
  exact hp_or_iff.mpr (Or.inl h)
theorem hp_bk_stab (k : Nat) {o : Nat} (h : hp_bk F w Z o (k + 1) = hp_bk F w Z o k) : hp_bk F w Z o (k + 2) = hp_bk F w Z o (k + 1) := by
  show hp_bk F w Z o (k + 1) ||| hp_pre F w Z (hp_bk F w Z o (k + 1)) = hp_bk F w Z o k ||| hp_pre F w Z (hp_bk F w Z o k)
  rw [h]
/-- who comes to o at all comes by 23 references or less -/
theorem hp_wk_short {o : Nat} (ho : o < 24) {k a : Nat} (ha : a < 24) (h : hp_wk F w Z k a o) : ∃ j, j ≤ 23 ∧ hp_wk F w Z j a o := by
  have st := hp_pg23 (hp_bk F w Z o) (hp_bk_S ho) (fun k i => hp_bk_inc k i) (fun k => hp_bk_stab k) (hp_c_pos (s := hp_bk F w Z o 0) (a := o) ((hp_one_iff (by omega)).mpr rfl) ho)
  have h1 := (hp_bk_iff (F := F) (w := w) (Z := Z) ho k a).mpr ⟨ha, k, Nat.le_refl k, h⟩
  rcases Nat.le_total k 23 with l | l
  · exact ⟨k, l, h⟩
  · have := (hp_still (hp_bk F w Z o) (fun k => hp_bk_stab k) st (k - 23)).2
    rw [show 23 + (k - 23) = k by omega] at this
    rw [this] at h1
    exact ((hp_bk_iff ho 23 a).mp h1).2
/-- the levels from the roots by walks -/
theorem hp_lev_iff {s : Int32} (hZ : ∀ i, bt (hp_clo F w s 0) i = true → bt Z i = true) (hs : hp_S s) : ∀ k, k ≤ 24 → ∀ o, bt (hp_it F w s 0 k) o = true ↔ ∃ j p, j ≤ k ∧ bt s p = true ∧ hp_wk F w Z j p o
  | 0 => fun _ o => by
    show bt (s &&& (0 ^^^ (-1))) o = true ↔ _
    rw [hp_andn_iff]
    constructor
    · intro h; exact ⟨0, o, Nat.le_refl 0, h.1, rfl⟩
    · rintro ⟨j, p, hj, hp, h⟩
      cases Nat.le_zero.mp hj
      cases h
      exact ⟨hp, hp_0⟩
  | k + 1 => fun hk o => by
    have ih := hp_lev_iff hZ hs k (by omega)
    rw [hp_it_s, hp_or_iff, hp_andn_iff, hp_suc_iff, ih o]
    constructor
    · rintro (⟨j, p, h1, h2, h3⟩ | ⟨⟨h1, a, h2, h3⟩, _⟩)
      · exact ⟨j, p, by omega, h2, h3⟩
      · obtain ⟨j, p, h4, h5, h6⟩ := (ih a).mp h2
        refine ⟨j + 1, p, by omega, h5, hp_wk_snoc h6 (hZ a ?_) h3 h1⟩
        have := hp_it_mono h2 (24 - k)
        rw [show k + (24 - k) = 24 by omega] at this
        exact this
    · rintro ⟨j, p, h1, h2, h3⟩
      by_cases z : j ≤ k
      · exact Or.inl ⟨j, p, z, h2, h3⟩
      · obtain rfl : j = k + 1 := by omega
        obtain ⟨c, h4, h5, h6, h7⟩ := hp_wk_last h3
        exact Or.inr ⟨⟨h7, c, (ih c).mpr ⟨k, p, Nat.le_refl k, h2, h4⟩, h6⟩, hp_0⟩
/-- alive is found within 23 steps -/
theorem hp_lev_23 {s : Int32} (hs : hp_S s) : hp_it F w s 0 23 = hp_clo F w s 0 := by
  by_cases z : hp_c (hp_it F w s 0 0) 24 = 0
  · have e : hp_it F w s 0 0 = 0 := hp_ext fun i => ⟨fun y => absurd y (hp_c_zero 24 z i (hp_it_S hs 0 i y)), fun y => absurd y hp_0⟩
    have n : ∀ i, bt s i = true → ¬ bt 0 i = true → False := fun i h h' => by
      have : bt (hp_it F w s 0 0) i = true := hp_andn_iff.mpr ⟨h, h'⟩
      rw [e] at this
      exact hp_0 this
    exact hp_ext fun i => ⟨fun y => (hp_it_ind (fun _ => False) n (fun _ _ h _ _ _ => h) 23 i y).elim, fun y => (hp_clo_ind (fun _ => False) n (fun _ _ h _ _ _ => h) y).elim⟩
  · exact (hp_pg23 (hp_it F w s 0) (hp_it_S hs) (hp_it_inc F w s 0) (hp_it_stab F w s 0) (by omega)).symm
/-- what the reference's table of distances holds at its end -/
def hp_far (F : Nat → Int32) (w : Nat) (Z : Int32) (o : Nat) (A : Nat → Int32) : Prop :=
  ∀ a, a < 24 → (∃ d, d ≤ 23 ∧ A a = nI d ∧ hp_wk F w Z d a o ∧ ∀ j, hp_wk F w Z j a o → d ≤ j) ∨ (A a = nI 100 ∧ ∀ j, ¬ hp_wk F w Z j a o)
/-- and on its way there: n relaxations are done -/
def hp_bf (F : Nat → Int32) (w : Nat) (Z : Int32) (o n : Nat) (A : Nat → Int32) : Prop :=
  ∃ d : Nat → Nat, (∀ a, a < 24 → A a = nI (d a) ∧ d a ≤ 100 ∧ (d a < 100 → hp_wk F w Z (d a) a o) ∧ ∀ k, k ≤ n / 96 → hp_wk F w Z k a o → d a ≤ k) ∧
    ∀ m p, m < n % 96 → p < 24 → bt Z (m / 4) = true → F (96 * w + m) = nI p → hp_wk F w Z (n / 96) p o → d (m / 4) ≤ n / 96 + 1
theorem hp_bf_0 {o : Nat} {A : Nat → Int32} (h : ∀ a, a < 24 → A a = if a = o then nI 0 else nI 100) : hp_bf F w Z o 0 A := by
  refine ⟨fun a => if a = o then 0 else 100, fun a ha => ?_, fun m p hm => absurd hm (by omega)⟩
  have e := h a ha
  by_cases z : a = o
  · rw [if_pos z] at e
    simp only [if_pos z]
    exact ⟨e, by omega, fun _ => z, fun k _ _ => by omega⟩
  · rw [if_neg z] at e
    simp only [if_neg z]
    refine ⟨e, by omega, fun y => absurd y (by omega), fun k hk hw => ?_⟩
    obtain rfl : k = 0 := by omega
    exact absurd hw z
/-- the general step: the table falls, soundly, and the n-th field's relaxation holds -/
theorem hp_bf_gen {o n : Nat} {d d' : Nat → Nat} {A' : Nat → Int32} (h1 : ∀ a, a < 24 → A' a = nI (d' a) ∧ d' a ≤ d a ∧ (d' a < 100 → hp_wk F w Z (d' a) a o))
    (h2 : ∀ a, a < 24 → d a ≤ 100 ∧ ∀ k, k ≤ n / 96 → hp_wk F w Z k a o → d a ≤ k)
    (h3 : ∀ m p, m < n % 96 → p < 24 → bt Z (m / 4) = true → F (96 * w + m) = nI p → hp_wk F w Z (n / 96) p o → d (m / 4) ≤ n / 96 + 1)
    (h4 : ∀ p, p < 24 → bt Z (n % 96 / 4) = true → F (96 * w + n % 96) = nI p → d' (n % 96 / 4) ≤ d p + 1) : hp_bf F w Z o (n + 1) A' := by
  have c2 : ∀ m p, m < n % 96 + 1 → p < 24 → bt Z (m / 4) = true → F (96 * w + m) = nI p → hp_wk F w Z (n / 96) p o → d' (m / 4) ≤ n / 96 + 1 := by
    intro m p hm hp hz hf hw
    have hm4 : m / 4 < 24 := by omega
    by_cases z : m < n % 96
    · exact Nat.le_trans (h1 (m / 4) hm4).2.1 (h3 m p z hp hz hf hw)
    · obtain rfl : m = n % 96 := by omega
      have a1 := h4 p hp hz hf
      have a2 := (h2 p hp).2 (n / 96) (Nat.le_refl _) hw
      omega
  refine ⟨d', fun a ha => ⟨(h1 a ha).1, Nat.le_trans (h1 a ha).2.1 (h2 a ha).1, (h1 a ha).2.2, fun k hk hw => ?_⟩, fun m p hm hp hz hf hw => ?_⟩
  · by_cases z : k ≤ n / 96
    · exact Nat.le_trans (h1 a ha).2.1 ((h2 a ha).2 k z hw)
    · obtain rfl : k = n / 96 + 1 := by omega
      have hn : n % 96 + 1 = 96 := by omega
      obtain ⟨c, hc, hz, ⟨m, hm, e, hf⟩, hw2⟩ := hw
      have := c2 m c (by omega) hc (by rw [e]; exact hz) hf hw2
      rw [e] at this
      exact this
  · have e : (n + 1) / 96 = n / 96 := by omega
    rw [e] at hw ⊢
    exact c2 m p (by omega) hp hz hf hw
theorem hp_bf_skip {o n : Nat} {A : Nat → Int32} (h : hp_bf F w Z o n A) (hs : ∀ p, p < 24 → bt Z (n % 96 / 4) = true → F (96 * w + n % 96) = nI p → ¬ A p + 1 < A (n % 96 / 4)) : hp_bf F w Z o (n + 1) A := by
  obtain ⟨d, h1, h2⟩ := h
  refine hp_bf_gen (d := d) (d' := d) (fun a ha => ⟨(h1 a ha).1, Nat.le_refl _, (h1 a ha).2.2.1⟩) (fun a ha => ⟨(h1 a ha).2.1, (h1 a ha).2.2.2⟩) h2 (fun p hp hz hf => ?_)
  have g := hs p hp hz hf
  have a1 := h1 p hp
  have a2 := h1 (n % 96 / 4) (by omega)
  rw [a1.1, a2.1, nI_1, nI_ltI (by omega) (by omega)] at g
  omega
theorem hp_bf_relax {o n p : Nat} {A : Nat → Int32} (h : hp_bf F w Z o n A) (hp : p < 24) (hz : bt Z (n % 96 / 4) = true) (hf : F (96 * w + n % 96) = nI p) (hl : A p + 1 < A (n % 96 / 4)) : hp_bf F w Z o (n + 1) (upd A (n % 96 / 4) (A p + 1)) := by
  obtain ⟨d, h1, h2⟩ := h
  have hm : n % 96 / 4 < 24 := by omega
  have a1 := h1 p hp
  have a2 := h1 (n % 96 / 4) hm
  rw [a1.1, a2.1, nI_1, nI_ltI (by omega) (by omega)] at hl
  refine hp_bf_gen (d := d) (d' := fun a => if a = n % 96 / 4 then d p + 1 else d a) (fun a ha => ?_) (fun a ha => ⟨(h1 a ha).2.1, (h1 a ha).2.2.2⟩) h2 (fun q hq hz' hf' => ?_)
  · by_cases z : a = n % 96 / 4
    · subst z
      simp only [if_pos]
      refine ⟨by rw [pk_us, a1.1, nI_1], by omega, fun _ => ⟨p, hp, hz, ⟨n % 96, by omega, rfl, hf⟩, a1.2.2.1 (by omega)⟩⟩
    · simp only [if_neg z]
      exact ⟨by rw [pk_un z]; exact (h1 a ha).1, Nat.le_refl _, (h1 a ha).2.2.1⟩
  · simp only [if_pos]
    have : p = q := hp_nI_inj hp hq (hf.symm.trans hf')
    rw [this]
    exact Nat.le_refl _
theorem hp_bf_end {o : Nat} (ho : o < 24) {A : Nat → Int32} (h : hp_bf F w Z o 2304 A) : hp_far F w Z o A := by
  obtain ⟨d, h1, _⟩ := h
  intro a ha
  obtain ⟨e, b, s, c⟩ := h1 a ha
  by_cases z : d a < 100
  · obtain ⟨j, hj, hw⟩ := hp_wk_short ho ha (s z)
    have := c j (by omega) hw
    refine Or.inl ⟨d a, by omega, e, s z, fun k hk => ?_⟩
    by_cases y : k ≤ 24
    · exact c k (by omega) hk
    · omega
  · have e100 : d a = 100 := by omega
    refine Or.inr ⟨by rw [e, e100], fun j hj => ?_⟩
    obtain ⟨k, hk, hw⟩ := hp_wk_short ho ha hj
    have := c k (by omega) hw
    omega
end
end
section
/-! what the loops over fields and roots keep -/
section
variable {F R : Nat → Int32} {w : Nat}
theorem hp_E_lt {a p : Nat} (h : hp_E F w a p) : a < 24 := by
  obtain ⟨m, hm, e, _⟩ := h
  omega
/-- n fields seen: the base u and what members of s refer to -/
def hp_sI (F : Nat → Int32) (w : Nat) (s u : Int32) (n : Nat) (t : Int32) : Prop :=
  ∀ p, bt t p = true ↔ bt u p = true ∨ (p < 24 ∧ ∃ m, m < n ∧ bt s (m / 4) = true ∧ F (96 * w + m) = nI p)
theorem hp_sI_0 {s u : Int32} : hp_sI F w s u 0 u := fun p =>
  ⟨Or.inl, fun h => h.elim id (fun ⟨_, m, hm, _⟩ => absurd hm (by omega))⟩
theorem hp_sI_skip {s u t : Int32} {n : Nat} (h : hp_sI F w s u n t) (hs : bt s (n / 4) = true → F (96 * w + n) = -1) : hp_sI F w s u (n + 1) t := fun p => by
  rw [h p]
  constructor
  · rintro (h1 | ⟨h1, m, h2, h3, h4⟩)
    · exact Or.inl h1
    · exact Or.inr ⟨h1, m, by omega, h3, h4⟩
  · rintro (h1 | ⟨h1, m, h2, h3, h4⟩)
    · exact Or.inl h1
    · by_cases z : m = n
      · subst z
        rw [hs h3] at h4
        exact absurd h4.symm (hp_nI_ne (by omega))
      · exact Or.inr ⟨h1, m, by omega, h3, h4⟩
theorem hp_sI_add {s u t : Int32} {n q : Nat} (h : hp_sI F w s u n t) (hq : q < 24) (hs : bt s (n / 4) = true) (hf : F (96 * w + n) = nI q) : hp_sI F w s u (n + 1) (t ||| hp_o q) := fun p => by
  rw [hp_or_one (by omega), h p]
  constructor
  · rintro ((h1 | ⟨h1, m, h2, h3, h4⟩) | h1)
    · exact Or.inl h1
    · exact Or.inr ⟨h1, m, by omega, h3, h4⟩
    · exact Or.inr ⟨by omega, n, by omega, hs, by rw [hf, h1]⟩
  · rintro (h1 | ⟨h1, m, h2, h3, h4⟩)
    · exact Or.inl (Or.inl h1)
    · by_cases z : m = n
      · subst z
        rw [hf] at h4
        exact Or.inr (hp_nI_inj hq h1 h4).symm
      · exact Or.inl (Or.inr ⟨h1, m, by omega, h3, h4⟩)
theorem hp_sI_96 {s u t : Int32} (h : hp_sI F w s u 96 t) : t = u ||| hp_suc F w s := hp_ext fun p => by
  rw [h p, hp_or_iff, hp_suc_iff]
  constructor
  · rintro (h1 | ⟨h1, m, h2, h3, h4⟩)
    · exact Or.inl h1
    · exact Or.inr ⟨h1, m / 4, h3, m, h2, rfl, h4⟩
  · rintro (h1 | ⟨h1, a, h2, m, h3, h4, h5⟩)
    · exact Or.inl h1
    · exact Or.inr ⟨h1, m, h3, by rw [h4]; exact h2, h5⟩
theorem hp_or_0 (s : Int32) : 0 ||| s = s := hp_ext fun i => by
  rw [hp_or_iff]
  exact ⟨fun h => h.elim (fun z => absurd z hp_0) id, Or.inr⟩
/-- n roots seen -/
def hp_rI (R : Nat → Int32) (w : Nat) (n : Nat) (t : Int32) : Prop :=
  ∀ p, bt t p = true ↔ p < 24 ∧ ∃ r, r < n ∧ R (4 * w + r) = nI p
theorem hp_rI_0 : hp_rI R w 0 0 := fun p =>
  ⟨fun h => absurd h hp_0, fun ⟨_, m, hm, _⟩ => absurd hm (by omega)⟩
theorem hp_rI_skip {t : Int32} {n : Nat} (h : hp_rI R w n t) (hs : R (4 * w + n) = -1) : hp_rI R w (n + 1) t := fun p => by
  rw [h p]
  constructor
  · rintro ⟨h1, m, h2, h4⟩
    exact ⟨h1, m, by omega, h4⟩
  · rintro ⟨h1, m, h2, h4⟩
    by_cases z : m = n
    · subst z
      rw [hs] at h4
      exact absurd h4.symm (hp_nI_ne (by omega))
    · exact ⟨h1, m, by omega, h4⟩
theorem hp_rI_add {t : Int32} {n q : Nat} (h : hp_rI R w n t) (hq : q < 24) (hf : R (4 * w + n) = nI q) : hp_rI R w (n + 1) (t ||| hp_o q) := fun p => by
  rw [hp_or_one (by omega), h p]
  constructor
  · rintro (⟨h1, m, h2, h4⟩ | h1)
    · exact ⟨h1, m, by omega, h4⟩
    · exact ⟨by omega, n, by omega, by rw [hf, h1]⟩
  · rintro ⟨h1, m, h2, h4⟩
    by_cases z : m = n
    · subst z
      rw [hf] at h4
      exact Or.inr (hp_nI_inj hq h1 h4).symm
    · exact Or.inl ⟨h1, m, by omega, h4⟩
theorem hp_rI_4 {t : Int32} (h : hp_rI R w 4 t) : t = hp_rts R w := hp_ext fun p => by rw [h p, hp_rts_iff]
/-- the reference's search, within C: from t0, n fields seen -/
def hp_lv (F : Nat → Int32) (w : Nat) (c : Nat → Prop) (b C t0 : Int32) (n : Nat) (t : Int32) : Prop :=
  (∀ i, bt t0 i = true → bt t i = true) ∧ (∀ i, bt t i = true → bt C i = true) ∧ ∀ m p, m < n → p < 24 → (c (m / 4) ∨ bt t0 (m / 4) = true) → F (96 * w + m) = nI p → ¬ bt b p = true → bt t p = true
theorem hp_lv_0 {c : Nat → Prop} {b C t : Int32} (h : ∀ i, bt t i = true → bt C i = true) : hp_lv F w c b C t 0 t := ⟨fun _ h => h, h, fun m _ hm => absurd hm (by omega)⟩
theorem hp_lv_skip {c : Nat → Prop} {b C t0 t : Int32} {n : Nat} (h : hp_lv F w c b C t0 n t) (hs : (c (n / 4) ∨ bt t (n / 4) = true) → F (96 * w + n) = -1) : hp_lv F w c b C t0 (n + 1) t := by
  refine ⟨h.1, h.2.1, fun m p hm hp h1 h2 h3 => ?_⟩
  by_cases z : m = n
  · subst z
    rw [hs (h1.imp id (h.1 _))] at h2
    exact absurd h2.symm (hp_nI_ne (by omega))
  · exact h.2.2 m p (by omega) hp h1 h2 h3
theorem hp_lv_add {c : Nat → Prop} {b C t0 t t' : Int32} {n q : Nat} (hC : ∀ a p, (c a ∨ bt C a = true) → hp_E F w a p → p < 24 → ¬ bt b p = true → bt C p = true) (h : hp_lv F w c b C t0 n t) (hn : n < 96) (hq : q < 24) (hs : c (n / 4) ∨ bt t (n / 4) = true) (hf : F (96 * w + n) = nI q) (ht : ∀ i, bt t' i = true ↔ bt t i = true ∨ (i = q ∧ ¬ bt b i = true)) : hp_lv F w c b C t0 (n + 1) t' := by
  refine ⟨fun i hi => (ht i).mpr (Or.inl (h.1 i hi)), fun i hi => ?_, fun m p hm hp h1 h2 h3 => ?_⟩
  · rcases (ht i).mp hi with h1 | ⟨h1, h2⟩
    · exact h.2.1 i h1
    · subst h1
      exact hC (n / 4) i (hs.imp id (h.2.1 _)) ⟨n, hn, rfl, hf⟩ hq h2
  · by_cases z : m = n
    · subst z
      rw [hf] at h2
      have := hp_nI_inj hq hp h2
      subst this
      exact (ht q).mpr (Or.inr ⟨rfl, h3⟩)
    · exact (ht p).mpr (Or.inl (h.2.2 m p (by omega) hp h1 h2 h3))
theorem hp_lv_96 {c : Nat → Prop} {b C t0 t : Int32} (h : hp_lv F w c b C t0 96 t) {a p : Nat} (ha : c a ∨ bt t0 a = true) (he : hp_E F w a p) (hp : p < 24) (hb : ¬ bt b p = true) : bt t p = true := by
  obtain ⟨m, hm, e, hf⟩ := he
  exact h.2.2 m p hm hp (by rw [e]; exact ha) hf hb
theorem hp_grow {t0 t : Int32} (hS : hp_S t) (h : ∀ i, bt t0 i = true → bt t i = true) (ne : ¬ t0 = t) : hp_c t0 24 < hp_c t 24 := by
  have : ∃ a, ¬ bt t0 a = true ∧ bt t a = true := by
    apply Classical.byContradiction
    intro n
    exact ne (hp_ext fun i => ⟨h i, fun z => Classical.byContradiction fun y => n ⟨i, y, z⟩⟩)
  obtain ⟨a, h1, h2⟩ := this
  exact hp_c_lt h1 h2 24 (fun i _ => h i) (hS a h2)
theorem hp_S_m1 {s : Int32} (h : hp_S s) : ¬ (-1 : Int32) = s := fun e => by
  have := h 31 (by rw [← e]; exact b_m1 31 (by omega))
  omega
/-- least of those that satisfy Q, or -1 -/
def hp_mn (Q : Nat → Prop) (x : Int32) : Prop := (x = -1 ∧ ∀ p, p < 24 → ¬ Q p) ∨ ∃ a, a < 24 ∧ x = nI a ∧ Q a ∧ ∀ p, p < 24 → Q p → a ≤ p
theorem hp_mn_ls {Q : Nat → Prop} {x s : Int32} (h : hp_mn Q x) (hs : ∀ p, p < 24 → (bt s p = true ↔ Q p)) : x = hp_ls s := by
  rcases h with ⟨e, h⟩ | ⟨a, ha, e, hq, h⟩
  · rw [e, hp_ls_none (fun i hi z => h i hi ((hs i hi).mp z))]
  · rw [e, hp_ls_of ha ((hs a ha).mpr hq) (fun i hi z => by have := h i (by omega) ((hs i (by omega)).mp z); omega)]
/-- an array with its first n cells copied to b and on -/
def hp_cp (A : Nat → Int32) (b n : Nat) : Nat → Int32 := fun j => if b ≤ j ∧ j < b + n then A (j - b) else A j
theorem hp_cp_0 (A : Nat → Int32) (b : Nat) : hp_cp A b 0 = A := funext fun j => if_neg (by omega)
theorem hp_cp_lo {A : Nat → Int32} {b n j : Nat} (h : j < b) : hp_cp A b n j = A j := if_neg (by omega)
theorem hp_cp_in {A : Nat → Int32} {b n j : Nat} (h : j < n) : hp_cp A b n (b + j) = A j := by
  unfold hp_cp
  rw [if_pos (by omega), Nat.add_sub_cancel_left]
theorem hp_cp_out {A : Nat → Int32} {b n j : Nat} (h : b + n ≤ j) : hp_cp A b n j = A j := if_neg (by omega)
theorem hp_cp_s {A : Nat → Int32} {b n : Nat} (h : n < b) : upd (hp_cp A b n) (b + n) (hp_cp A b n n) = hp_cp A b (n + 1) := by
  rw [hp_cp_lo h]
  funext j
  by_cases z : j = b + n
  · subst z
    rw [pk_us, hp_cp_in (by omega)]
  · rw [pk_un z]
    unfold hp_cp
    by_cases y : b ≤ j ∧ j < b + n
    · rw [if_pos y, if_pos (by omega)]
    · rw [if_neg y, if_neg (by omega)]
end
end
section
/-! how the calls that change something keep the shared state -/
/-- the reference's row of who is there -/
def hp_T (P T : Nat → Int32) : Prop := ∀ w o, w < 3 → o < 24 → T (24 * w + o) = if bt (P w) o = true then 1 else 0
theorem hp_T_t {P T : Nat → Int32} (h : hp_T P T) {w o : Nat} (hw : w < 3) (ho : o < 24) (hb : bt (P w) o = true) : T (24 * w + o) = 1 := by
  rw [h w o hw ho, if_pos hb]
theorem hp_T_f {P T : Nat → Int32} (h : hp_T P T) {w o : Nat} (hw : w < 3) (ho : o < 24) (hb : ¬ bt (P w) o = true) : T (24 * w + o) = 0 := by
  rw [h w o hw ho, if_neg hb]
/-- an array with n cells from b on set to -1 -/
def hp_fl (A : Nat → Int32) (b n : Nat) : Nat → Int32 := fun j => if b ≤ j ∧ j < b + n then -1 else A j
theorem hp_fl_0 (A : Nat → Int32) (b : Nat) : hp_fl A b 0 = A := funext fun j => if_neg (by omega)
theorem hp_fl_in {A : Nat → Int32} {b n j : Nat} (h : b ≤ j ∧ j < b + n) : hp_fl A b n j = -1 := if_pos h
theorem hp_fl_out {A : Nat → Int32} {b n j : Nat} (h : ¬ (b ≤ j ∧ j < b + n)) : hp_fl A b n j = A j := if_neg h
theorem hp_fl_s (A : Nat → Int32) (b n : Nat) : upd (hp_fl A b n) (b + n) (-1) = hp_fl A b (n + 1) := by
  funext j
  by_cases z : j = b + n
  · subst z
    rw [pk_us, hp_fl_in (by omega)]
  · rw [pk_un z]
    by_cases y : b ≤ j ∧ j < b + n
    · rw [hp_fl_in y, hp_fl_in (by omega)]
    · rw [hp_fl_out y, hp_fl_out (by omega)]
section
variable {P F R T : Nat → Int32}
theorem hp_ok_0 : hp_ok (fun _ => 0) (fun _ => 0) (hp_fl (fun _ => 0) 0 12) := by
  refine ⟨fun _ _ => hp_S_0, fun _ _ => Or.inr ⟨0, by omega, nI_0.symm⟩, fun w r hw hr => Or.inl (hp_fl_in (by omega)), fun w m p _ _ _ h => absurd h hp_0⟩
theorem hp_T_0 : hp_T (fun _ => 0) (fun _ => 0) := fun w o _ _ => (if_neg hp_0).symm
theorem hp_ok_cut (ok : hp_ok P F R) {q : Int32} (h1 : ∀ i, bt q i = true → bt (P 0) i = true) (h2 : ∀ i, bt (hp_rts R 0) i = true → bt q i = true) (h3 : ∀ a p, bt q a = true → hp_E F 0 a p → p < 24 → bt q p = true) : hp_ok (upd P 0 q) F R := by
  obtain ⟨o1, o2, o3, o4⟩ := ok
  refine ⟨fun w hw => ?_, o2, fun w r hw hr => ?_, fun w m p hw hm hp => ?_⟩
  · by_cases z : w = 0
    · subst z; rw [pk_us]; exact fun i hi => o1 0 hw i (h1 i hi)
    · rw [pk_un z]; exact o1 w hw
  · by_cases z : w = 0
    · subst z; rw [pk_us]
      rcases o3 0 r hw hr with h | ⟨p, hp, e, hb⟩
      · exact Or.inl h
      · exact Or.inr ⟨p, hp, e, h2 p (hp_rts_iff.mpr ⟨hp, r, hr, e⟩)⟩
    · rw [pk_un z]; exact o3 w r hw hr
  · by_cases z : w = 0
    · subst z; rw [pk_us]
      intro ha hf
      exact h3 (m / 4) p ha ⟨m, hm, rfl, hf⟩ hp
    · rw [pk_un z]; exact o4 w m p hw hm hp
theorem hp_ok_make (ok : hp_ok P F R) {o r : Nat} (ho : o < 24) (hr : r < 4) : hp_ok (upd P 0 (P 0 ||| hp_o o)) (hp_fl F (4 * o) 4) (upd R r (nI o)) := by
  obtain ⟨o1, o2, o3, o4⟩ := ok
  refine ⟨fun w hw => ?_, fun i hi => ?_, fun w r' hw hr' => ?_, fun w m p hw hm hp => ?_⟩
  · by_cases z : w = 0
    · subst z; rw [pk_us]; exact hp_S_or (o1 0 hw) (hp_S_one ho)
    · rw [pk_un z]; exact o1 w hw
  · by_cases z : 4 * o ≤ i ∧ i < 4 * o + 4
    · exact Or.inl (hp_fl_in z)
    · rw [hp_fl_out z]; exact o2 i hi
  · by_cases z : w = 0
    · subst z; rw [pk_us]
      by_cases y : r' = r
      · subst y
        refine Or.inr ⟨o, ho, ?_, (hp_or_one (by omega)).mpr (Or.inr rfl)⟩
        rw [show 4 * 0 + r' = r' by omega, pk_us]
      · rw [pk_un (by omega)]
        rcases o3 0 r' hw hr' with h | ⟨p, hp, e, hb⟩
        · exact Or.inl h
        · exact Or.inr ⟨p, hp, e, (hp_or_one (by omega)).mpr (Or.inl hb)⟩
    · rw [pk_un z, pk_un (by omega)]; exact o3 w r' hw hr'
  · by_cases z : w = 0
    · subst z; rw [pk_us]
      intro ha hf
      by_cases y : m / 4 = o
      · rw [hp_fl_in (by omega)] at hf
        exact absurd hf.symm (hp_nI_ne (by omega))
      · rw [hp_fl_out (by omega)] at hf
        rcases (hp_or_one (by omega)).mp ha with ha | ha
        · exact (hp_or_one (by omega)).mpr (Or.inl (o4 0 m p hw hm hp ha hf))
        · exact absurd ha y
    · rw [pk_un z, hp_fl_out (by omega)]; exact o4 w m p hw hm hp
/-- p may be referred to -/
def hp_ref (s x : Int32) : Prop := x = -1 ∨ ∃ p, p < 24 ∧ x = nI p ∧ bt s p = true
theorem hp_ok_field (ok : hp_ok P F R) {i : Nat} {x : Int32} (hi : i < 96) (hx : hp_ref (P 0) x) : hp_ok P (upd F i x) R := by
  obtain ⟨o1, o2, o3, o4⟩ := ok
  refine ⟨o1, fun j hj => ?_, o3, fun w m p hw hm hp ha hf => ?_⟩
  · by_cases z : j = i
    · subst z; rw [pk_us]
      exact hx.imp id (fun ⟨p, h1, h2, _⟩ => ⟨p, h1, h2⟩)
    · rw [pk_un z]; exact o2 j hj
  · by_cases z : 96 * w + m = i
    · rw [← z, pk_us] at hf
      obtain rfl : w = 0 := by omega
      rcases hx with h | ⟨q, h1, h2, h3⟩
      · rw [h] at hf; exact absurd hf.symm (hp_nI_ne (by omega))
      · rw [h2] at hf
        rw [← hp_nI_inj h1 hp hf]; exact h3
    · rw [pk_un z] at hf; exact o4 w m p hw hm hp ha hf
theorem hp_ok_root (ok : hp_ok P F R) {r : Nat} {x : Int32} (hr : r < 4) (hx : hp_ref (P 0) x) : hp_ok P F (upd R r x) := by
  obtain ⟨o1, o2, o3, o4⟩ := ok
  refine ⟨o1, o2, fun w r' hw hr' => ?_, o4⟩
  by_cases z : 4 * w + r' = r
  · obtain rfl : w = 0 := by omega
    rw [z, pk_us]
    exact hx
  · rw [pk_un z]; exact o3 w r' hw hr'
theorem hp_ok_dump (ok : hp_ok P F R) {w : Nat} (h0 : 0 < w) (hw : w < 3) : hp_ok (upd P w (hp_clo F 0 (hp_rts R 0) 0)) (hp_cp F (96 * w) 96) (hp_cp R (4 * w) 4) := by
  have al := fun i => hp_alive ok (w := 0) (by omega) (b := 0) (i := i)
  obtain ⟨o1, o2, o3, o4⟩ := ok
  have S := hp_clo_S (F := F) (w := 0) (b := 0) (hp_rts_S R 0)
  refine ⟨fun w' hw' => ?_, fun i hi => ?_, fun w' r hw' hr => ?_, fun w' m p hw' hm hp => ?_⟩
  · by_cases z : w' = w
    · subst z; rw [pk_us]; exact S
    · rw [pk_un z]; exact o1 w' hw'
  · by_cases z : 96 * w ≤ i ∧ i < 96 * w + 96
    · obtain ⟨j, rfl⟩ : ∃ j, i = 96 * w + j := ⟨i - 96 * w, by omega⟩
      rw [hp_cp_in (by omega)]; exact o2 j (by omega)
    · unfold hp_cp; rw [if_neg z]; exact o2 i hi
  · by_cases z : w' = w
    · subst z; rw [pk_us, hp_cp_in hr]
      have := o3 0 r (by omega) hr
      rw [show 4 * 0 + r = r by omega] at this
      rcases this with h | ⟨p, hp, e, hb⟩
      · exact Or.inl h
      · exact Or.inr ⟨p, hp, e, hp_clo_start (hp_rts_iff.mpr ⟨hp, r, hr, by rw [show 4 * 0 + r = r by omega]; exact e⟩) hp_0⟩
    · rw [pk_un z, show hp_cp R (4 * w) 4 (4 * w' + r) = R (4 * w' + r) from if_neg (by omega)]; exact o3 w' r hw' hr
  · by_cases z : w' = w
    · subst z; rw [pk_us, hp_cp_in hm]
      intro ha hf
      exact hp_clo_step (hp_rts_S R 0) ha ⟨m, hm, rfl, by rw [show 96 * 0 + m = m by omega]; exact hf⟩ hp hp_0
    · rw [pk_un z, show hp_cp F (96 * w) 96 (96 * w' + m) = F (96 * w' + m) from if_neg (by omega)]; exact o4 w' m p hw' hm hp
/-- what the row of who is there becomes -/
theorem hp_T_upd (hT : hp_T P T) {T' : Nat → Int32} {w : Nat} {q : Int32} (hw : w < 3) (h1 : ∀ o, o < 24 → T' (24 * w + o) = if bt q o = true then 1 else 0) (h2 : ∀ j, ¬ (24 * w ≤ j ∧ j < 24 * w + 24) → T' j = T j) : hp_T (upd P w q) T' := by
  intro w' o hw' ho
  by_cases z : w' = w
  · subst z; rw [pk_us]; exact h1 o ho
  · rw [pk_un z, h2 _ (by omega)]; exact hT w' o hw' ho
end
end
section
/-! depth and way: X's levels and sets against the reference's distances -/
section
variable {F R : Nat → Int32} {w : Nat} {Z s : Int32} {o : Nat}
theorem hp_depth (hs : hp_S s) (hZ : ∀ i, bt (hp_clo F w s 0) i = true → bt Z i = true) (al : bt (hp_clo F w s 0) o = true) :
    ∃ K, K ≤ 23 ∧ bt (hp_it F w s 0 K) o = true ∧ (∀ j, j < K → ¬ bt (hp_it F w s 0 j) o = true) ∧ (∃ p, bt s p = true ∧ hp_wk F w Z K p o) ∧ ∀ p j, bt s p = true → hp_wk F w Z j p o → K ≤ j := by
  rw [← hp_lev_23 hs] at al
  obtain ⟨K, h1, h2⟩ := pk_least (fun k => bt (hp_it F w s 0 k) o = true) ⟨23, al⟩
  have hK : K ≤ 23 := by
    rcases Nat.lt_or_ge 23 K with z | z
    · exact absurd al (h2 23 z)
    · exact z
  have lv := hp_lev_iff (F := F) (w := w) (Z := Z) (s := s) hZ hs
  have key : ∀ p j, bt s p = true → hp_wk F w Z j p o → K ≤ j := by
    intro p j hp hw
    rcases Nat.lt_or_ge j K with z | z
    · exact absurd ((lv j (by omega) o).mpr ⟨j, p, Nat.le_refl j, hp, hw⟩) (h2 j z)
    · exact z
  obtain ⟨j, p, hj, hp, hw⟩ := (lv K (by omega) o).mp h1
  have : j = K := by have := key p j hp hw; omega
  subst this
  exact ⟨j, hK, h1, h2, ⟨p, hp, hw⟩, key⟩
/-- the way, as X finds it -/
noncomputable def hp_pt (F R : Nat → Int32) (w : Nat) (Z : Int32) (o K : Nat) : Nat → Int32
  | 0 => hp_ls (hp_rts R w &&& hp_ct F w Z o K)
  | i + 1 => hp_ls (hp_suc F w ((1 : Int32) <<< (hp_pt F R w Z o K i &&& 31)) &&& hp_ct F w Z o (K - (i + 1)))
variable {A : Nat → Int32}
theorem hp_far_v (fr : hp_far F w Z o A) {a : Nat} (ha : a < 24) {j : Nat} (h : hp_wk F w Z j a o) : ∃ d, d ≤ 23 ∧ A a = nI d ∧ hp_wk F w Z d a o ∧ ∀ j, hp_wk F w Z j a o → d ≤ j := by
  rcases fr a ha with z | ⟨_, z⟩
  · exact z
  · exact absurd h (z j)
theorem hp_far_i (fr : hp_far F w Z o A) {a d : Nat} (ha : a < 24) (hd : d < 100) (e : A a = nI d) : d ≤ 23 ∧ hp_wk F w Z d a o ∧ ∀ j, hp_wk F w Z j a o → d ≤ j := by
  rcases fr a ha with ⟨d', h1, h2, h3, h4⟩ | ⟨h1, _⟩
  · rw [e] at h2
    have : d = d' := (nI_eq (by omega) (by omega)).mp h2
    subst this
    exact ⟨h1, h3, h4⟩
  · rw [e] at h1
    have : d = 100 := (nI_eq (by omega) (by omega)).mp h1
    omega
theorem hp_far_n (fr : hp_far F w Z o A) {a : Nat} (ha : a < 24) : ∃ d, d ≤ 100 ∧ A a = nI d := by
  rcases fr a ha with ⟨d, h1, h2, _⟩ | ⟨h1, _⟩
  · exact ⟨d, by omega, h2⟩
  · exact ⟨100, by omega, h1⟩
/-- the reference's best root after r roots -/
def hp_BI (R : Nat → Int32) (w : Nat) (A : Nat → Int32) (r : Nat) (x : Int32) : Prop :=
  (x = -1 ∧ ∀ r' p, r' < r → p < 24 → R (4 * w + r') = nI p → ¬ A p < 100) ∨
  ∃ a d, a < 24 ∧ x = nI a ∧ (∃ r', r' < r ∧ R (4 * w + r') = nI a) ∧ A a = nI d ∧ d < 100 ∧ ∀ r' p d', r' < r → p < 24 → R (4 * w + r') = nI p → A p = nI d' → d' < 100 → d < d' ∨ (d = d' ∧ a ≤ p)
theorem hp_BI_end (fr : hp_far F w Z o A) {K : Nat} (hZS : hp_S Z) (ho : o < 24) (hK : K ≤ 23) (h1 : ∃ p, bt (hp_rts R w) p = true ∧ hp_wk F w Z K p o) (h2 : ∀ p j, bt (hp_rts R w) p = true → hp_wk F w Z j p o → K ≤ j) {x : Int32} (h : hp_BI R w A 4 x) :
    ∃ a, a < 24 ∧ x = nI a ∧ bt (hp_rts R w) a = true ∧ A a = nI K ∧ hp_pt F R w Z o K 0 = nI a := by
  obtain ⟨p, hp, hw⟩ := h1
  obtain ⟨hp24, rp, hrp, erp⟩ := hp_rts_iff.mp hp
  obtain ⟨dp, q1, q2, q3, q4⟩ := hp_far_v fr hp24 hw
  have e1 : dp = K := by
    have := q4 K hw
    have := h2 p dp hp q3
    omega
  subst e1
  rcases h with ⟨_, h⟩ | ⟨a, d, ha, ex, ⟨r, hr, er⟩, ed, hd, hm⟩
  · refine absurd ?_ (h rp p hrp hp24 erp)
    rw [q2]
    exact nI_lt (b := 100) (by omega) (by decide)
  · have ra : bt (hp_rts R w) a = true := hp_rts_iff.mpr ⟨ha, r, hr, er⟩
    obtain ⟨f1, f2, f3⟩ := hp_far_i fr ha hd ed
    have k1 := h2 a d ra f2
    have k2 := hm rp p dp hrp hp24 erp q2 (by omega)
    have e2 : d = dp := by omega
    subst e2
    refine ⟨a, ha, ex, ra, ed, hp_ls_of ha (hp_and_iff.mpr ⟨ra, (hp_ct_iff hZS ho d a).mpr ⟨ha, f2⟩⟩) (fun i hi z => ?_)⟩
    obtain ⟨z1, z2⟩ := hp_and_iff.mp z
    obtain ⟨i24, ri, hri, eri⟩ := hp_rts_iff.mp z1
    obtain ⟨_, z3⟩ := (hp_ct_iff hZS ho d i).mp z2
    obtain ⟨di, g1, g2, g3, g4⟩ := hp_far_v fr i24 z3
    have := hm ri i di hri i24 eri g2 (by omega)
    have := g4 d z3
    omega
theorem hp_path_0 (fr : hp_far F w Z o A) {a : Nat} {x : Int32} (e : A a = nI 0) (h : hp_mn (fun p => hp_E F w a p ∧ A p + 1 = A a) x) : x = -1 := by
  rcases h with ⟨h, _⟩ | ⟨p, hp, _, ⟨_, h⟩, _⟩
  · exact h
  · obtain ⟨d, hd, ed⟩ := hp_far_n fr hp
    rw [e, ed, nI_1] at h
    have := (nI_eq (by omega) (by omega)).mp h
    omega
theorem hp_path_s (fr : hp_far F w Z o A) (hZS : hp_S Z) (ho : o < 24) {a e : Nat} {x : Int32} (ha : a < 24) (hz : bt Z a = true) (he : e ≤ 22) (ea : A a = nI (e + 1)) (h : hp_mn (fun p => hp_E F w a p ∧ A p + 1 = A a) x) :
    x = hp_ls (hp_suc F w (hp_o a) &&& hp_ct F w Z o e) ∧ ∃ p, p < 24 ∧ x = nI p ∧ hp_E F w a p ∧ A p = nI e := by
  obtain ⟨f1, f2, f3⟩ := hp_far_i fr ha (by omega) ea
  have one : ∀ p, p < 24 → hp_E F w a p → (A p + 1 = A a ↔ hp_wk F w Z e p o) := by
    intro p hp hE
    rw [ea]
    constructor
    · intro h1
      obtain ⟨d, hd, ed⟩ := hp_far_n fr hp
      rw [ed, nI_1] at h1
      have : d = e := by have := (nI_eq (by omega) (by omega)).mp h1; omega
      subst this
      exact (hp_far_i fr hp (by omega) ed).2.1
    · intro h1
      obtain ⟨d, g1, g2, g3, g4⟩ := hp_far_v fr hp h1
      have k1 := g4 e h1
      have k2 := f3 (d + 1) ⟨p, hp, hz, hE, g3⟩
      have : d = e := by omega
      subst this
      rw [g2, nI_1]
  have st : ∀ p, p < 24 → (bt (hp_suc F w (hp_o a) &&& hp_ct F w Z o e) p = true ↔ hp_E F w a p ∧ A p + 1 = A a) := by
    intro p hp
    rw [hp_and_iff, hp_suc_iff, hp_ct_iff hZS ho]
    constructor
    · rintro ⟨⟨_, b, hb, hE⟩, _, hw⟩
      rw [hp_one_iff (by omega)] at hb
      subst hb
      exact ⟨hE, (one p hp hE).mpr hw⟩
    · rintro ⟨hE, h1⟩
      exact ⟨⟨hp, a, (hp_one_iff (by omega)).mpr rfl, hE⟩, hp, (one p hp hE).mp h1⟩
  refine ⟨hp_mn_ls h st, ?_⟩
  rcases h with ⟨_, h⟩ | ⟨p, hp, ex, ⟨h1, h2⟩, _⟩
  · obtain ⟨c, hc, _, hE, hw⟩ := f2
    exact absurd ⟨hE, (one c hc hE).mpr hw⟩ (h c hc)
  · refine ⟨p, hp, ex, h1, ?_⟩
    obtain ⟨d, hd, ed⟩ := hp_far_n fr hp
    rw [ea, ed, nI_1] at h2
    have : d = e := by have := (nI_eq (by omega) (by omega)).mp h2; omega
    rw [ed, this]
end
end
section
/-! X's private methods against the pure sets -/
theorem hp_le4 : (4 : Int32) ≤ nI 4 := by decide +kernel
theorem hp_le24 : (24 : Int32) ≤ nI 24 := by decide +kernel
theorem hp_le96 : (96 : Int32) ≤ nI 96 := by decide +kernel
theorem hp_n24 {i : Nat} (h : i < 24) : ¬ (24 : Int32) ≤ nI i := nI_ge (b := 24) h (by decide)
theorem hp_n4 {i : Nat} (h : i < 4) : ¬ (4 : Int32) ≤ nI i := nI_ge (b := 4) h (by decide)
theorem hp_n96 {i : Nat} (h : i < 96) : ¬ (96 : Int32) ≤ nI i := nI_ge (b := 96) h (by decide)
theorem hp_ixr (w r : Nat) : nI w * 4 + nI r = nI (4 * w + r) := by
  show nI w * nI 4 + nI r = _
  rw [pk_mul, nI_add]
  exact congrArg nI (by omega)
theorem hp_ixo (w o : Nat) : nI w * 24 + nI o = nI (24 * w + o) := by
  show nI w * nI 24 + nI o = _
  rw [pk_mul, nI_add]
  exact congrArg nI (by omega)
theorem hp_ixf (w o f : Nat) : (nI w * 24 + nI o) * 4 + nI f = nI (96 * w + (4 * o + f)) := by
  rw [hp_ixo]
  show nI (24 * w + o) * nI 4 + nI f = _
  rw [pk_mul, nI_add]
  exact congrArg nI (by omega)
theorem hp_mk_t {Q : Nat → Bool} {n : Nat} (h : Q n = true) : hp_mk Q (n + 1) = hp_mk Q n ||| hp_o n := if_pos h
theorem hp_mk_f {Q : Nat → Bool} {n : Nat} (h : ¬ Q n = true) : hp_mk Q (n + 1) = hp_mk Q n := if_neg h
theorem hp_sum_t {G : Nat → Int32} {w : Nat} {s : Int32} {n : Nat} (h : bt s n = true) : hp_sum G w s (n + 1) = hp_sum G w s n + G (24 * w + n) := if_pos h
theorem hp_sum_f {G : Nat → Int32} {w : Nat} {s : Int32} {n : Nat} (h : ¬ bt s n = true) : hp_sum G w s (n + 1) = hp_sum G w s n := if_neg h
theorem xa_has {post : Int32 → Prop} {s : Int32} {j : Nat} (hj : j < 24) (h0 : ¬ bt s j = true → post 0) (h1 : bt s j = true → post 1) : wpX_contains post s (nI j) :=
  br_f (nI_pos (by omega)) (br_f (hp_n24 hj) (br_c (fun h => h1 ((hp_shI s (by omega)).mp h)) (fun h => h0 (fun z => h ((hp_shI s (by omega)).mpr z)))))
theorem xa_if {A B : Prop} {s : Int32} {j : Nat} (hj : j < 24) (h0 : ¬ bt s j = true → A) (h1 : bt s j = true → B) : wpX_contains (fun r => (r = 0 → A) ∧ (¬ r = 0 → B)) s (nI j) :=
  xa_has hj (fun h => br_t rfl (h0 h)) (fun h => br_f (by decide) (h1 h))
/-- x is the number of a member -/
def hp_in (s x : Int32) : Prop := ∃ j, j < 24 ∧ x = nI j ∧ bt s j = true
theorem xa_hasG {post : Int32 → Prop} {s x : Int32} (h0 : ¬ hp_in s x → post 0) (h1 : hp_in s x → post 1) : wpX_contains post s x := by
  rcases pk_ix x (n := 24) (by decide) with h | h | ⟨j, hj, e⟩
  · refine br_t h (h0 ?_)
    rintro ⟨j, hj, e, _⟩
    rw [e] at h
    exact nI_pos (by omega) h
  · refine br_c (fun _ => h0 ?_) (fun _ => br_t h (h0 ?_)) <;>
    · rintro ⟨j, hj, e, _⟩
      rw [e] at h
      exact nI_ge hj (by decide) h
  · subst e
    refine xa_has hj (fun h => h0 ?_) (fun h => h1 ⟨j, hj, rfl, h⟩)
    rintro ⟨i, hi, e, hb⟩
    rw [hp_nI_inj hj hi e] at h
    exact h hb
theorem xa_ifG {A B : Prop} {s x : Int32} (h0 : ¬ hp_in s x → A) (h1 : hp_in s x → B) : wpX_contains (fun r => (r = 0 → A) ∧ (¬ r = 0 → B)) s x :=
  xa_hasG (fun h => br_t rfl (h0 h)) (fun h => br_f (by decide) (h1 h))
theorem hp_in_nI {s : Int32} {j : Nat} (hj : j < 24) : hp_in s (nI j) ↔ bt s j = true := by
  constructor
  · rintro ⟨i, hi, e, hb⟩
    rw [hp_nI_inj hj hi e]; exact hb
  · intro h; exact ⟨j, hj, rfl, h⟩
theorem xa_least {post : Int32 → Prop} {s : Int32} (h : post (hp_ls s)) : wpX_least post s := by
  refine loop_0 (fun n i (_ : Unit) => wX_least_2 post s n (nI i)) (fun i _ => ∀ j, j < i → ¬ bt s j = true) 24 () (fun j hj => absurd hj (by omega)) ?_ ?_
  · intro n _ hI
    rw [hp_ls_none hI] at h
    exact br_t hp_le24 h
  · intro n i _ hi hI ih
    refine br_f (hp_n24 hi) (xa_if hi (fun hb => nm_r (nI_1 i) (ih () ?_)) (fun hb => ?_))
    · intro j hj
      by_cases z : j = i
      · rw [z]; exact hb
      · exact hI j (by omega)
    · rw [hp_ls_of hi hb hI] at h
      exact h
theorem xa_count {post : Int32 → Prop} {s : Int32} (h : post (hp_cn s 24)) : wpX_count post s := by
  refine loop_0 (fun n i t => wX_count_4 post s n t (nI i)) (fun i t => t = hp_cn s i) 24 0 rfl ?_ ?_
  · intro n t e; cases e
    exact br_t hp_le24 h
  · intro n i t hi e ih; cases e
    exact br_f (hp_n24 hi) (nm_e (nm_r (nI_1 i) (ih _ rfl)))
section
variable {P K G F R : Nat → Int32} {w : Nat} {post : Int32 → Prop}
theorem xa_rts (ok : hp_ok P F R) (hw : w < 3) (h : post (hp_rts R w)) : wpX_referredToByRoots post (P, K, G, F, R) (nI w) := by
  refine loop_0 (fun n i t => wX_referredToByRoots_4 post (nI w) P K G F R n t (nI i)) (fun i t => hp_rI R w i t) 4 0 hp_rI_0 ?_ ?_
  · intro n t hI
    rw [← hp_rI_4 hI] at h
    exact br_t hp_le4 h
  · intro n i t hi hI ih
    refine br_f (hp_n4 hi) ⟨pk_in (4 * w + i) 12 (by omega) (hp_ixr w i), nm_r (congrArg R (pk_cl (4 * w + i) (hp_ixr w i))) ?_⟩
    rcases ok.2.2.1 w i hw hi with z | ⟨p, hp, e, _⟩
    · exact br_t z (nm_r (nI_1 i) (ih _ (hp_rI_skip hI z)))
    · rw [e]
      exact br_f (hp_nI_ne (by omega)) (nm_e (nm_r (nI_1 i) (ih _ (hp_rI_add hI hp e))))
theorem xa_rtb15 (ok : hp_ok P F R) (hw : w < 3) {s : Int32} {o : Nat} (ho : o < 24) {J : Int32 → Int32 → Prop} (hJ : ∀ t, hp_sI F w s 0 (4 * (o + 1)) t → J t (nI (o + 1))) {t : Int32} (h : hp_sI F w s 0 (4 * o) t) : ∃ n, wX_referredToBy_15 post J (nI w) s (nI o) P K G F R n t 0 := by
  refine loop_0 (fun n i t => wX_referredToBy_15 post J (nI w) s (nI o) P K G F R n t (nI i)) (fun i t => hp_sI F w s 0 (4 * o + i) t) 4 t h ?_ ?_
  · intro n t hI
    exact br_t hp_le4 (nm_r (nI_1 o) (hJ t hI))
  · intro n i t hi hI ih
    have m4 : (4 * o + i) / 4 = o := by omega
    refine br_f (hp_n4 hi) ⟨pk_in (96 * w + (4 * o + i)) 288 (by omega) (hp_ixf w o i), nm_r (congrArg F (pk_cl (96 * w + (4 * o + i)) (hp_ixf w o i))) ?_⟩
    rcases ok.2.1 (96 * w + (4 * o + i)) (by omega) with z | ⟨p, hp, e⟩
    · exact br_t z (nm_r (nI_1 i) (ih _ (hp_sI_skip hI (fun _ => z))))
    · rw [e]
      exact br_f (hp_nI_ne (by omega)) (xa_if ho (fun hb => nm_r (nI_1 i) (ih _ (hp_sI_skip hI (fun y => absurd (m4 ▸ y) hb)))) (fun hb => nm_e (nm_r (nI_1 i) (ih _ (hp_sI_add hI hp (m4.symm ▸ hb) e)))))
theorem xa_rtb (ok : hp_ok P F R) (hw : w < 3) {s : Int32} (h : post (hp_suc F w s)) : wpX_referredToBy post (P, K, G, F, R) (nI w) s := by
  refine loop_0 (fun n i t => wX_referredToBy_5 post (nI w) s P K G F R n t (nI i)) (fun i t => hp_sI F w s 0 (4 * i) t) 24 0 hp_sI_0 ?_ ?_
  · intro n t hI
    have := hp_sI_96 hI
    rw [hp_or_0] at this
    rw [← this] at h
    exact br_t hp_le24 h
  · intro n i t hi hI ih
    exact br_f (hp_n24 hi) (xa_rtb15 ok hw hi (fun t ht => ih t ht) hI)
theorem xa_spread (ok : hp_ok P F R) (hw : w < 3) {s b : Int32} (h : post (hp_clo F w s b)) : wpX_spread post (P, K, G, F, R) (nI w) s b := by
  refine nm_e ?_
  refine loop_0 (fun n i t => wX_spread_10 post (nI w) b P K G F R n t (nI i)) (fun i t => t = hp_it F w s b i) 24 (s &&& (b ^^^ (-1))) rfl ?_ ?_
  · intro n t e; cases e
    exact br_t hp_le24 h
  · intro n i t hi e ih; cases e
    refine br_f (hp_n24 hi) (xa_rtb ok hw (nm_e (br_c (fun e => ?_) (fun _ => nm_r (nI_1 i) (ih _ rfl)))))
    rw [hp_it_still (by omega) e]
    exact h
theorem xa_alive (ok : hp_ok P F R) (hw : w < 3) (h : post (hp_clo F w (hp_rts R w) 0)) : wpX_aliveIn post (P, K, G, F, R) (nI w) :=
  xa_rts ok hw (xa_spread ok hw h)
theorem xa_lost (ok : hp_ok P F R) (hw : w < 3) {b : Int32} (h : post (hp_lost F w (hp_rts R w) b)) : wpX_lostWithout post (P, K, G, F, R) (nI w) b :=
  xa_rts ok hw (xa_spread ok hw (xa_spread ok hw h))
theorem xa_isAlive (ok : hp_ok P F R) (hw : w < 3) {x : Int32} (h0 : ¬ hp_in (hp_clo F w (hp_rts R w) 0) x → post 0) (h1 : hp_in (hp_clo F w (hp_rts R w) 0) x → post 1) : wpX_isAlive post (P, K, G, F, R) (nI w) x :=
  xa_alive ok hw (xa_hasG (fun h => ⟨rfl, h0 h⟩) (fun h => ⟨rfl, h1 h⟩))
theorem xa_sum (hw : w < 3) {s : Int32} (h : post (hp_sum G w s 24)) : wpX_sumOfSizes post (P, K, G, F, R) (nI w) s := by
  refine loop_0 (fun n i t => wX_sumOfSizes_5 post (nI w) s P K G F R n t (nI i)) (fun i t => t = hp_sum G w s i) 24 0 rfl ?_ ?_
  · intro n t e; cases e
    exact br_t hp_le24 h
  · intro n i t hi e ih; cases e
    refine br_f (hp_n24 hi) (xa_if hi (fun hb => nm_r (nI_1 i) (ih _ (hp_sum_f hb).symm)) (fun hb => ⟨pk_in (24 * w + i) 72 (by omega) (hp_ixo w i), nm_r ?_ (nm_r (nI_1 i) (ih _ rfl))⟩))
    rw [hp_sum_t hb, pk_cl (24 * w + i) (hp_ixo w i)]
theorem xa_kind (hw : w < 3) {kd : Int32} (h : post (hp_mk (fun o => bt (P w) o && decide (K (24 * w + o) = kd)) 24)) : wpX_ofKind post (P, K, G, F, R) (nI w) kd := by
  refine loop_0 (fun n i t => wX_ofKind_5 post (nI w) kd P K G F R n t (nI i)) (fun i t => t = hp_mk (fun o => bt (P w) o && decide (K (24 * w + o) = kd)) i) 24 0 rfl ?_ ?_
  · intro n t e; cases e
    exact br_t hp_le24 h
  · intro n i t hi e ih; cases e
    refine br_f (hp_n24 hi) ⟨vp_in_nI hw (by decide), ?_⟩
    rw [nI_clamp (by omega : w < 2 ^ 31)]
    refine xa_if hi (fun hb => nm_r (nI_1 i) (ih _ (hp_mk_f (by simp [hb])).symm)) (fun hb => ⟨pk_in (24 * w + i) 72 (by omega) (hp_ixo w i), ?_⟩)
    rw [pk_cl (24 * w + i) (hp_ixo w i)]
    exact br_c (fun e => nm_r (hp_mk_t (Q := fun o => bt (P w) o && decide (K (24 * w + o) = kd)) (by simp [hb, e])).symm (nm_r (nI_1 i) (ih _ rfl))) (fun e => nm_r (nI_1 i) (ih _ (hp_mk_f (by simp [e])).symm))
theorem xa_left (ok : hp_ok P F R) (h : post (hp_sw F (hp_rts R 0) (P 0) 24)) : wpX_leftBySweep post (P, K, G, F, R) := by
  refine xa_rts (w := 0) ok (by omega) (nm_e ?_)
  refine loop_0 (fun n i t => wX_leftBySweep_15 post (hp_rts R 0) P K G F R n t (nI i)) (fun i t => t = hp_sw F (hp_rts R 0) (P 0) i) 24 (P 0) rfl ?_ ?_
  · intro n t e; cases e
    exact br_t hp_le24 h
  · intro n i t hi e ih; cases e
    exact br_f (hp_n24 hi) (xa_rtb (w := 0) ok (by omega) (nm_e (nm_r (nI_1 i) (ih _ rfl))))
end
end
section
/-! the reference's private methods against the pure sets -/
theorem hp_ixF (w m : Nat) : 96 * nI w + nI m = nI (96 * w + m) := by
  show nI 96 * nI w + nI m = _
  rw [pk_mul, nI_add]
theorem hp_ixO (w o : Nat) : 24 * nI w + nI o = nI (24 * w + o) := by
  show nI 24 * nI w + nI o = _
  rw [pk_mul, nI_add]
theorem hp_ixR (w r : Nat) : 4 * nI w + nI r = nI (4 * w + r) := by
  show nI 4 * nI w + nI r = _
  rw [pk_mul, nI_add]
theorem hp_ixG (w o f : Nat) : (96 * nI w + 4 * nI o) + nI f = nI (96 * w + (4 * o + f)) := by
  show (nI 96 * nI w + nI 4 * nI o) + nI f = _
  rw [pk_mul, pk_mul, nI_add, nI_add]
  exact congrArg nI (by omega)
theorem hp_div4 {i : Nat} (h : i < 96) : nI i / 4 = nI (i / 4) := pk_div (d := 4) (by omega) (by omega) (by decide)
theorem hp_4ne : ¬ (4 : Int32) = 0 := by decide
theorem hp_m1neg : (-1 : Int32) < 0 := by decide
theorem hp_vb1 : vp_nar .boolean 1 = 1 := rfl
theorem hp_vb0 : vp_nar .boolean 0 = 0 := rfl
theorem hp_T0 {P T : Nat → Int32} (h : hp_T P T) {o : Nat} (ho : o < 24) : T o = if bt (P 0) o = true then 1 else 0 := by
  have := h 0 o (by omega) ho
  rw [show 24 * 0 + o = o by omega] at this
  exact this
section
variable {T K G F R A L P : Nat → Int32} {w : Nat} {post : Int32 → Prop}
theorem ya_in {j n : Nat} (hj : j ≤ n) (hn : n < 2 ^ 31) (h : post 1) : wpY_isIn post (T, K, G, F, R, A, L) (nI j) 0 (nI n) :=
  br_f (nI_pos (by omega)) (br_f (nI_nlt hj hn) h)
theorem ya_out {x : Int32} {n : Nat} (hn : n + 1 < 2 ^ 31) (hx : x < 0 ∨ nI (n + 1) ≤ x) (h : post 0) : wpY_isIn post (T, K, G, F, R, A, L) x 0 (nI n) := by
  refine br_c (fun _ => h) (fun h0 => br_t ?_ h)
  rcases hx with z | z
  · exact absurd z h0
  · obtain ⟨j, hj, rfl⟩ := nI_of h0
    rw [nI_leI hn hj] at z
    exact nI_lt (by omega) hj
/-- one field's turn: what it refers to is added or not -/
theorem ya_live67 {s b t0 : Int32} (ok : hp_ok P F R) (hw : w < 3) (hs : hp_S s) {J : Int32 → Int32 → Prop} (hJ : ∀ t, hp_lv F w (fun _ => False) b (hp_clo F w s b) t0 96 t → J t t0) (h0 : ∀ i, bt t0 i = true → bt (hp_clo F w s b) i = true) : ∃ n, wY_live_67 post J (nI w) b t0 T K G F R A L n t0 0 := by
  have hC : ∀ a p, (False ∨ bt (hp_clo F w s b) a = true) → hp_E F w a p → p < 24 → ¬ bt b p = true → bt (hp_clo F w s b) p = true := fun a p h he hp hb => hp_clo_step hs (h.resolve_left id) he hp hb
  refine loop_0 (fun n i t => wY_live_67 post J (nI w) b t0 T K G F R A L n t (nI i)) (fun i t => hp_lv F w (fun _ => False) b (hp_clo F w s b) t0 i t) 96 t0 (hp_lv_0 h0) ?_ ?_
  · intro n t hI
    exact br_t hp_le96 (hJ t hI)
  · intro n i t hi hI ih
    refine br_f (hp_n96 hi) ⟨hp_4ne, ?_⟩
    rw [hp_div4 hi]
    refine br_c (fun h => ⟨pk_in (96 * w + i) 288 (by omega) (hp_ixF w i), ?_⟩) (fun h => br_t hp_m1neg (nm_r (nI_1 i) (ih _ (hp_lv_skip hI (fun z => absurd ((hp_shI t (by omega)).mpr (z.resolve_left id)) h)))))
    rw [pk_cl (96 * w + i) (hp_ixF w i)]
    have hb := (hp_shI t (by omega : i / 4 < 32)).mp h
    rcases ok.2.1 (96 * w + i) (by omega) with z | ⟨p, hp, e⟩
    · rw [z]
      exact br_t hp_m1neg (nm_r (nI_1 i) (ih _ (hp_lv_skip hI (fun _ => z))))
    · rw [e]
      refine br_f (nI_pos (by omega)) (nm_e (nm_r (nI_1 i) (ih _ (hp_lv_add hC hI hi hp (Or.inr hb) e (fun k => ?_)))))
      rw [hp_or_iff, hp_andn_iff, hp_one_iff (by omega)]
theorem ya_live55 {s b : Int32} (ok : hp_ok P F R) (hw : w < 3) (hs : hp_S s) (h : post (hp_clo F w s b)) : ∃ n, wY_live_55 post (nI w) b T K G F R A L n (s &&& (b ^^^ (-1))) (-1) := by
  refine loop_m (σ := Int32 × Int32) (fun n q => wY_live_55 post (nI w) b T K G F R A L n q.1 q.2) (fun q => (∀ i, bt s i = true → ¬ bt b i = true → bt q.1 i = true) ∧ (∀ i, bt q.1 i = true → bt (hp_clo F w s b) i = true) ∧ (q.2 = q.1 → ∀ a p, bt q.1 a = true → hp_E F w a p → p < 24 → ¬ bt b p = true → bt q.1 p = true)) (fun q => if q.2 = q.1 then 0 else 25 - hp_c q.1 24) ?_ (s &&& (b ^^^ (-1)), -1) ⟨fun i h1 h2 => hp_andn_iff.mpr ⟨h1, h2⟩, fun i h1 => hp_clo_start (hp_andn_iff.mp h1).1 (hp_andn_iff.mp h1).2, fun e => absurd e (hp_S_m1 (hp_S_and hs))⟩
  rintro n ⟨t, t0⟩ ⟨h1, h2, h3⟩ ih
  refine br_c (fun e => ?_) (fun ne => ya_live67 ok hw hs (fun t' hl => ih (t', t) ⟨fun i a b => hl.1 i (h1 i a b), hl.2.1, fun e a p ha he hp hb => ?_⟩ ?_) h2)
  · have : t = hp_clo F w s b := hp_clo_uniq h1 (h3 e) h2
    rw [← this] at h
    exact h
  · exact hp_lv_96 hl (Or.inr (by have e' : t = t' := e; rw [e']; exact ha)) he hp hb
  · show (if t = t' then 0 else 25 - hp_c t' 24) < (if t0 = t then 0 else 25 - hp_c t 24)
    have c1 := hp_c_le t 24
    have c2 := hp_c_le t' 24
    rw [if_neg ne]
    by_cases z : t = t'
    · rw [if_pos z]; omega
    · rw [if_neg z]
      have : hp_c t 24 < hp_c t' 24 := hp_grow (fun i hi => hp_clo_S hs i (hl.2.1 i hi)) hl.1 z
      omega
theorem ya_live {b : Int32} (ok : hp_ok P F R) (hw : w < 3) (h : post (hp_clo F w (hp_rts R w) b)) : wpY_live post (T, K, G, F, R, A, L) (nI w) b := by
  refine loop_0 (fun n i t => wY_live_5 post (nI w) b T K G F R A L n t (nI i)) (fun i t => hp_rI R w i t) 4 0 hp_rI_0 ?_ ?_
  · intro n t hI
    have e := hp_rI_4 hI
    rw [e]
    exact br_t hp_le4 (nm_e (ya_live55 ok hw (hp_rts_S R w) h))
  · intro n i t hi hI ih
    refine br_f (hp_n4 hi) ⟨pk_in (4 * w + i) 12 (by omega) (hp_ixR w i), nm_r (congrArg R (pk_cl (4 * w + i) (hp_ixR w i))) ?_⟩
    rcases ok.2.2.1 w i hw hi with z | ⟨p, hp, e, _⟩
    · rw [z]
      exact br_t hp_m1neg (nm_r (nI_1 i) (ih _ (hp_rI_skip hI z)))
    · rw [e]
      exact br_f (nI_pos (by omega)) (nm_e (nm_r (nI_1 i) (ih _ (hp_rI_add hI hp e))))
theorem ya_isAlive (ok : hp_ok P F R) (hw : w < 3) {x : Int32} (h0 : ¬ hp_in (hp_clo F w (hp_rts R w) 0) x → post 0) (h1 : hp_in (hp_clo F w (hp_rts R w) 0) x → post 1) : wpY_isAlive post (T, K, G, F, R, A, L) (nI w) x := by
  have bad : (x < 0 ∨ nI 24 ≤ x) → ¬ hp_in (hp_clo F w (hp_rts R w) 0) x := by
    rintro h ⟨j, hj, e, _⟩
    rw [e] at h
    rcases h with h | h
    · exact nI_pos (by omega) h
    · exact nI_ge hj (by decide) h
  unfold wpY_isAlive
  dsimp only
  rcases pk_ix x (n := 24) (by decide) with h | h | ⟨j, hj, e⟩
  · refine ya_out (n := 23) (by decide) (Or.inl h) ?_
    exact br_t rfl (h0 (bad (Or.inl h)))
  · refine ya_out (n := 23) (by decide) (Or.inr h) ?_
    exact br_t rfl (h0 (bad (Or.inr h)))
  · subst e
    refine ya_in (j := j) (n := 23) (by omega) (by decide) ?_
    refine br_f (by decide) (ya_live ok hw (br_c (fun h => h1 ?_) (fun h => h0 (fun z => h ?_))))
    · exact (hp_in_nI hj).mpr ((hp_shI _ (by omega)).mp h)
    · exact (hp_shI _ (by omega)).mpr ((hp_in_nI hj).mp z)
theorem ya_bits {s : Int32} (h : post (hp_cn s 24)) : wpY_bits post (T, K, G, F, R, A, L) s := by
  refine loop_0 (fun n i t => wY_bits_4 post s T K G F R A L n t (nI i)) (fun i t => t = hp_cn s i) 24 0 rfl ?_ ?_
  · intro n t e; cases e
    exact br_t hp_le24 h
  · intro n i t hi e ih; cases e
    exact br_f (hp_n24 hi) (nm_e (nm_r (nI_1 i) (ih _ rfl)))
theorem ya_sum (hw : w < 3) {s : Int32} (h : post (hp_sum G w s 24)) : wpY_sumOf post (T, K, G, F, R, A, L) (nI w) s := by
  refine loop_0 (fun n i t => wY_sumOf_5 post (nI w) s T K G F R A L n t (nI i)) (fun i t => t = hp_sum G w s i) 24 0 rfl ?_ ?_
  · intro n t e; cases e
    exact br_t hp_le24 h
  · intro n i t hi e ih; cases e
    refine br_f (hp_n24 hi) (br_c (fun hb => ⟨pk_in (24 * w + i) 72 (by omega) (hp_ixO w i), nm_r ?_ (nm_r (nI_1 i) (ih _ rfl))⟩) (fun hb => nm_r (nI_1 i) (ih _ (hp_sum_f (fun z => hb ((hp_shI s (by omega)).mpr z))).symm)))
    rw [hp_sum_t ((hp_shI s (by omega)).mp hb), pk_cl (24 * w + i) (hp_ixO w i)]
theorem ya_all (ok : hp_ok P F R) (hT : hp_T P T) (h : post (P 0)) : wpY_all post (T, K, G, F, R, A, L) := by
  have e24 : hp_mk (fun o => bt (P 0) o) 24 = P 0 := hp_ext fun i => by
    rw [hp_mk24]
    exact ⟨fun h => h.2, fun h => ⟨ok.1 0 (by omega) i h, h⟩⟩
  refine loop_0 (fun n i t => wY_all_4 post T K G F R A L n t (nI i)) (fun i t => t = hp_mk (fun o => bt (P 0) o) i) 24 0 rfl ?_ ?_
  · intro n t e; cases e
    rw [e24]
    exact br_t hp_le24 h
  · intro n i t hi e ih; cases e
    refine br_f (hp_n24 hi) ⟨vp_in_nI (by omega) (by decide), ?_⟩
    rw [nI_clamp (by omega : i < 2 ^ 31), hp_T0 hT hi]
    by_cases hb : bt (P 0) i = true
    · rw [if_pos hb]
      exact br_f (by decide) (nm_r (hp_mk_t (Q := fun o => bt (P 0) o) hb).symm (nm_r (nI_1 i) (ih _ rfl)))
    · rw [if_neg hb]
      exact br_t rfl (nm_r (nI_1 i) (ih _ (hp_mk_f hb).symm))
theorem ya_kind (hw : w < 3) {kd : Int32} (h : post (hp_mk (fun o => decide (kd = -1) || decide (K (24 * w + o) = kd)) 24)) : wpY_ofKind post (T, K, G, F, R, A, L) (nI w) kd := by
  refine loop_0 (fun n i t => wY_ofKind_5 post (nI w) kd T K G F R A L n t (nI i)) (fun i t => t = hp_mk (fun o => decide (kd = -1) || decide (K (24 * w + o) = kd)) i) 24 0 rfl ?_ ?_
  · intro n t e; cases e
    exact br_t hp_le24 h
  · intro n i t hi e ih; cases e
    refine br_f (hp_n24 hi) (br_c (fun e => nm_r (hp_mk_t (Q := fun o => decide (kd = -1) || decide (K (24 * w + o) = kd)) (by simp [e])).symm (nm_r (nI_1 i) (ih _ rfl))) (fun ne => ⟨pk_in (24 * w + i) 72 (by omega) (hp_ixO w i), ?_⟩))
    rw [pk_cl (24 * w + i) (hp_ixO w i)]
    exact br_c (fun e => nm_r (hp_mk_t (Q := fun o => decide (kd = -1) || decide (K (24 * w + o) = kd)) (by simp [e])).symm (nm_r (nI_1 i) (ih _ rfl))) (fun e => nm_r (nI_1 i) (ih _ (hp_mk_f (by simp [e, ne])).symm))
theorem ya_kept (ok : hp_ok P F R) (hw : w < 3) {o : Nat} (h : post (hp_lost F w (hp_rts R w) (hp_o o))) : wpY_kept post (T, K, G, F, R, A, L) (nI w) (nI o) :=
  ya_live ok hw (ya_live ok hw h)
end
end
section
/-! the relation, and the calls that only count and add -/
def i_Rel (k : Nat) (u : SX) (v : SY) : Prop := ∃ P K G F R T A L : Nat → Int32, u = (P, K, G, F, R) ∧ v = (T, K, G, F, R, A, L) ∧ hp_ok P F R ∧ hp_T P T
theorem i_up {k : Nat} {u : SX} {v : SY} (h : i_Rel k u v) : i_Rel (k + 4) u v := h
theorem hp_place (x : Int32) : (∃ w, w < 3 ∧ x = nI w) ∨ (x < 0 ∨ nI 3 ≤ x) := by
  rcases pk_ix x (n := 3) (by decide) with h | h | h
  · exact Or.inr (Or.inl h)
  · exact Or.inr (Or.inr h)
  · exact Or.inl h
theorem hp_four (x : Int32) : (∃ w, w < 4 ∧ x = nI w) ∨ (x < 0 ∨ nI 4 ≤ x) := by
  rcases pk_ix x (n := 4) (by decide) with h | h | h
  · exact Or.inr (Or.inl h)
  · exact Or.inr (Or.inr h)
  · exact Or.inl h
theorem xa_plT {A B : Prop} {w : Nat} (hw : w < 3) (h : B) : wpX_isPlace (fun r => (r = 0 → A) ∧ (¬ r = 0 → B)) (nI w) :=
  br_f (nI_pos (by omega)) (br_f (nI_ge (b := 3) hw (by decide)) (br_f (by decide) h))
theorem xa_plF {A B : Prop} {x : Int32} (hx : x < 0 ∨ nI 3 ≤ x) (h : A) : wpX_isPlace (fun r => (r = 0 → A) ∧ (¬ r = 0 → B)) x :=
  br_c (fun _ => br_t rfl h) (fun n => br_t (hx.resolve_left n) (br_t rfl h))
theorem xa_kdT {A B : Prop} {w : Nat} (hw : w < 4) (h : B) : wpX_isKind (fun r => (r = 0 → A) ∧ (¬ r = 0 → B)) (nI w) :=
  br_f (nI_pos (by omega)) (br_f (nI_ge (b := 4) hw (by decide)) (br_f (by decide) h))
theorem xa_kdF {A B : Prop} {x : Int32} (hx : x < 0 ∨ nI 4 ≤ x) (h : A) : wpX_isKind (fun r => (r = 0 → A) ∧ (¬ r = 0 → B)) x :=
  br_c (fun _ => br_t rfl h) (fun n => br_t (hx.resolve_left n) (br_t rfl h))
theorem xa_rtT {A B : Prop} {w : Nat} (hw : w < 4) (h : B) : wpX_isRoot (fun r => (r = 0 → A) ∧ (¬ r = 0 → B)) (nI w) :=
  br_f (nI_pos (by omega)) (br_f (nI_ge (b := 4) hw (by decide)) (br_f (by decide) h))
theorem xa_rtF {A B : Prop} {x : Int32} (hx : x < 0 ∨ nI 4 ≤ x) (h : A) : wpX_isRoot (fun r => (r = 0 → A) ∧ (¬ r = 0 → B)) x :=
  br_c (fun _ => br_t rfl h) (fun n => br_t (hx.resolve_left n) (br_t rfl h))
section
variable {P T K G F R A L : Nat → Int32} {w : Nat}
theorem ya_plT {C B : Prop} (hw : w < 3) (h : B) : wpY_isPlace (fun r => (r = 0 → C) ∧ (¬ r = 0 → B)) (T, K, G, F, R, A, L) (nI w) := by
  unfold wpY_isPlace
  dsimp only
  refine ya_in (j := w) (n := 2) (by omega) (by decide) ?_
  exact ⟨rfl, br_f (by decide) h⟩
theorem ya_plF {C B : Prop} {x : Int32} (hx : x < 0 ∨ nI 3 ≤ x) (h : C) : wpY_isPlace (fun r => (r = 0 → C) ∧ (¬ r = 0 → B)) (T, K, G, F, R, A, L) x := by
  unfold wpY_isPlace
  dsimp only
  refine ya_out (n := 2) (by decide) hx ?_
  exact ⟨rfl, br_t rfl h⟩
theorem ya_4T {C B : Prop} (hw : w < 4) (h : B) : wpY_isIn (fun r => (r = 0 → C) ∧ (¬ r = 0 → B)) (T, K, G, F, R, A, L) (nI w) 0 3 := by
  refine ya_in (j := w) (n := 3) (by omega) (by decide) ?_
  exact br_f (by decide) h
theorem ya_4F {C B : Prop} {x : Int32} (hx : x < 0 ∨ nI 4 ≤ x) (h : C) : wpY_isIn (fun r => (r = 0 → C) ∧ (¬ r = 0 → B)) (T, K, G, F, R, A, L) x 0 3 := by
  refine ya_out (n := 3) (by decide) hx ?_
  exact br_t rfl h
theorem i_vc_objects {k : Nat} {u : SX} {v : SY} (I : i_Rel k u v) (hk : k + 4 ≤ 2048) : wpX_objects (fun r => wpY_objects (fun r' => r' = r ∧ i_Rel (k + 4) u v) v) u := by
  have J := I
  obtain ⟨P, K, G, F, R, T, A, L, rfl, rfl, ok, hT⟩ := I
  unfold wpX_objects wpY_objects
  dsimp only
  exact xa_count (ya_all ok hT (ya_bits ⟨rfl, J⟩))
theorem i_vc_garbage {k : Nat} {u : SX} {v : SY} (I : i_Rel k u v) (hk : k + 4 ≤ 2048) : wpX_garbage (fun r => wpY_garbage (fun r' => r' = r ∧ i_Rel (k + 4) u v) v) u := by
  have J := I
  obtain ⟨P, K, G, F, R, T, A, L, rfl, rfl, ok, hT⟩ := I
  unfold wpX_garbage wpY_garbage
  dsimp only
  exact xa_alive (w := 0) ok (by omega) (nm_e (xa_sum (w := 0) (by omega) (ya_all ok hT (ya_live (w := 0) ok (by omega) (ya_sum (w := 0) (by omega) ⟨rfl, J⟩)))))
theorem i_vc_alive {k : Nat} {u : SX} {v : SY} (I : i_Rel k u v) (hk : k + 4 ≤ 2048) (v1 : Int32) : wpX_alive (fun r => wpY_alive (fun r' => r' = r ∧ i_Rel (k + 4) u v) v v1) u v1 := by
  have J := I
  obtain ⟨P, K, G, F, R, T, A, L, rfl, rfl, ok, hT⟩ := I
  unfold wpX_alive wpY_alive
  dsimp only
  rcases hp_place v1 with ⟨w, hw, rfl⟩ | bad
  · exact xa_plT hw (xa_alive ok hw (xa_count (ya_plT hw (ya_live ok hw (ya_bits ⟨rfl, J⟩)))))
  · exact xa_plF bad (ya_plF bad ⟨rfl, J⟩)
theorem i_vc_fresh {k : Nat} {u : SX} {v : SY} (I : i_Rel k u v) (hk : k + 4 ≤ 2048) : wpX_fresh (fun r => wpY_fresh (fun r' => r' = r ∧ i_Rel (k + 4) u v) v) u := by
  have J := I
  obtain ⟨P, K, G, F, R, T, A, L, rfl, rfl, ok, hT⟩ := I
  unfold wpX_fresh wpY_fresh
  dsimp only
  exact xa_alive (w := 2) ok (by omega) (xa_alive (w := 1) ok (by omega) (nm_e (xa_count (ya_live (w := 2) ok (by omega) (ya_live (w := 1) ok (by omega) (ya_bits ⟨rfl, J⟩))))))
theorem i_vc_retained {k : Nat} {u : SX} {v : SY} (I : i_Rel k u v) (hk : k + 4 ≤ 2048) (v1 : Int32) (v2 : Int32) : wpX_retained (fun r => wpY_retained (fun r' => r' = r ∧ i_Rel (k + 4) u v) v v1 v2) u v1 v2 := by
  have J := I
  obtain ⟨P, K, G, F, R, T, A, L, rfl, rfl, ok, hT⟩ := I
  unfold wpX_retained wpY_retained
  dsimp only
  rcases hp_place v1 with ⟨w, hw, rfl⟩ | bad
  · refine xa_plT hw (xa_isAlive ok hw (fun n => br_t rfl (ya_plT hw (ya_isAlive ok hw (fun _ => br_t rfl ⟨rfl, J⟩) (fun h => absurd h n)))) (fun h => br_f (by decide) ?_))
    refine xa_lost ok hw (xa_sum hw (ya_plT hw (ya_isAlive ok hw (fun n => absurd h n) (fun _ => br_f (by decide) ?_))))
    obtain ⟨o, ho, rfl, hb⟩ := h
    exact ya_kept ok hw (ya_sum hw ⟨rfl, J⟩)
  · exact xa_plF bad (ya_plF bad ⟨rfl, J⟩)
/-- which of the kind count: only among the alive ones -/
theorem hp_kinds (ok : hp_ok P F R) (hw : w < 3) {kd : Int32} (hk : ¬ kd = -1) {i : Nat} (h : bt (hp_clo F w (hp_rts R w) 0) i = true) : bt (hp_mk (fun o => bt (P w) o && decide (K (24 * w + o) = kd)) 24) i = true ↔ bt (hp_mk (fun o => decide (kd = -1) || decide (K (24 * w + o) = kd)) 24) i = true := by
  rw [hp_mk24, hp_mk24]
  have := hp_alive ok hw h
  simp [this, hk]
theorem hp_nI_m1 {n : Nat} (h : n < 24) : ¬ nI n = -1 := hp_nI_ne (by omega)
theorem i_vc_retainedByKind {k : Nat} {u : SX} {v : SY} (I : i_Rel k u v) (hk : k + 4 ≤ 2048) (v1 : Int32) (v2 : Int32) : wpX_retainedByKind (fun r => wpY_retainedByKind (fun r' => r' = r ∧ i_Rel (k + 4) u v) v v1 v2) u v1 v2 := by
  have J := I
  obtain ⟨P, K, G, F, R, T, A, L, rfl, rfl, ok, hT⟩ := I
  unfold wpX_retainedByKind wpY_retainedByKind
  dsimp only
  rcases hp_place v1 with ⟨w, hw, rfl⟩ | bad
  · rcases hp_four v2 with ⟨c, hc, rfl⟩ | bad
    · refine xa_plT hw (xa_kdT hc (xa_kind hw (xa_lost ok hw (xa_sum hw (ya_plT hw (ya_4T hc (ya_live ok hw (ya_kind hw (ya_live ok hw (ya_sum hw ⟨?_, J⟩))))))))))
      show hp_sum G w (hp_lost F w (hp_rts R w) _) 24 = _
      unfold hp_lost
      rw [hp_clo_bar (hp_rts_S R w) (fun i hi => hp_kinds (K := K) ok hw (hp_nI_m1 (by omega)) hi)]
    · exact xa_plT hw (xa_kdF bad (ya_plT hw (ya_4F bad ⟨rfl, J⟩)))
  · exact xa_plF bad (ya_plF bad ⟨rfl, J⟩)
/-- the bytes of a kind, -1 for all -/
noncomputable def hp_by (K G F R : Nat → Int32) (w : Nat) (kd : Int32) : Int32 := hp_sum G w (hp_clo F w (hp_rts R w) 0 &&& hp_mk (fun o => decide (kd = -1) || decide (K (24 * w + o) = kd)) 24) 24
theorem xa_bytes21 {post : Int32 → Prop} (ok : hp_ok P F R) (hw : w < 3) {kd : Int32} (h : post (hp_by K G F R w kd)) : wX_bytes_21 post (nI w) kd P K G F R := by
  refine xa_alive ok hw (br_c (fun e => ?_) (fun ne => ?_))
  · refine xa_sum hw ?_
    have : hp_clo F w (hp_rts R w) 0 = hp_clo F w (hp_rts R w) 0 &&& hp_mk (fun o => decide (kd = -1) || decide (K (24 * w + o) = kd)) 24 := hp_ext fun i => by
      rw [hp_and_iff, hp_mk24]
      exact ⟨fun h => ⟨h, hp_clo_S (hp_rts_S R w) i h, by simp [e]⟩, fun h => h.1⟩
    unfold hp_by at h
    rw [← this] at h
    exact h
  · refine xa_kind hw (nm_e (xa_sum hw ?_))
    have : hp_clo F w (hp_rts R w) 0 &&& hp_mk (fun o => bt (P w) o && decide (K (24 * w + o) = kd)) 24 = hp_clo F w (hp_rts R w) 0 &&& hp_mk (fun o => decide (kd = -1) || decide (K (24 * w + o) = kd)) 24 := hp_ext fun i => by
      rw [hp_and_iff, hp_and_iff]
      exact ⟨fun h => ⟨h.1, (hp_kinds ok hw ne h.1).mp h.2⟩, fun h => ⟨h.1, (hp_kinds ok hw ne h.1).mpr h.2⟩⟩
    rw [this]
    exact h
theorem ya_kin {post : Int32 → Prop} {x : Int32} (h0 : x < 0 ∨ nI 4 ≤ x → ¬ x = -1 → post 0) (h1 : (x = -1 ∨ ∃ c, c < 4 ∧ x = nI c) → post 1) : wpY_isIn post (T, K, G, F, R, A, L) x (-1) 3 := by
  unfold wpY_isIn
  dsimp only
  rcases hp_four x with ⟨c, hc, e⟩ | bad
  · refine br_f (fun z => ?_) (br_f ?_ (h1 (Or.inr ⟨c, hc, e⟩)))
    · rw [e, Int32.lt_iff_toInt_lt, nI_toInt (by omega)] at z
      have : (-1 : Int32).toInt = -1 := by decide
      omega
    · rw [e]
      exact nI_nlt (a := 3) (b := c) (by omega) (by omega)
  · by_cases e : x = -1
    · rw [e]
      exact br_f (by decide) (br_f (by decide) (h1 (Or.inl e)))
    · refine br_c (fun _ => h0 bad e) (fun n => br_c (fun _ => h0 bad e) (fun n2 => ?_))
      exfalso
      have m1 : (-1 : Int32).toInt = -1 := by decide
      have z0 : (0 : Int32).toInt = 0 := by decide
      have t3 : (3 : Int32).toInt = 3 := by decide
      have ne : ¬ x.toInt = -1 := fun z => e (Int32.toInt_inj.mp (z.trans m1.symm))
      rw [Int32.lt_iff_toInt_lt] at n n2
      rw [Int32.lt_iff_toInt_lt, Int32.le_iff_toInt_le, nI_toInt (by omega)] at bad
      omega
theorem i_vc_bytes {k : Nat} {u : SX} {v : SY} (I : i_Rel k u v) (hk : k + 4 ≤ 2048) (v1 : Int32) (v2 : Int32) : wpX_bytes (fun r => wpY_bytes (fun r' => r' = r ∧ i_Rel (k + 4) u v) v v1 v2) u v1 v2 := by
  have J := I
  obtain ⟨P, K, G, F, R, T, A, L, rfl, rfl, ok, hT⟩ := I
  unfold wpX_bytes wpY_bytes
  dsimp only
  rcases hp_place v1 with ⟨w, hw, rfl⟩ | bad
  · have good : (v2 = -1 ∨ ∃ c, c < 4 ∧ v2 = nI c) → wX_bytes_21 (fun r => wpY_isPlace (fun r_1 => (((r_1 = 0 → ((-1 : Int32) = r ∧ i_Rel (k + 4) (P, K, G, F, R) (T, K, G, F, R, A, L))) ∧ (¬ r_1 = 0 → (wpY_isIn (fun r_10 => (((r_10 = 0 → ((-1 : Int32) = r ∧ i_Rel (k + 4) (P, K, G, F, R) (T, K, G, F, R, A, L))) ∧ (¬ r_10 = 0 → (wpY_live (fun r_19 => (wpY_ofKind (fun r_27 => (wpY_sumOf (fun r_35 => (r_35 = r ∧ i_Rel (k + 4) (P, K, G, F, R) (T, K, G, F, R, A, L))) (T, K, G, F, R, A, L) (nI w) (r_19 &&& r_27))) (T, K, G, F, R, A, L) (nI w) v2)) (T, K, G, F, R, A, L) (nI w) 0))))) (T, K, G, F, R, A, L) v2 (-1) 3))))) (T, K, G, F, R, A, L) (nI w)) (nI w) v2 P K G F R := by
      intro hv
      refine xa_bytes21 ok hw (ya_plT hw (ya_kin (fun b n => ?_) (fun _ => br_f (by decide) (ya_live ok hw (ya_kind hw (ya_sum hw ⟨rfl, J⟩))))))
      exfalso
      rcases hv with e | ⟨c, hc, e⟩
      · exact n e
      · rw [e] at b
        rcases b with b | b
        · exact nI_pos (by omega) b
        · exact nI_ge hc (by decide) b
    refine xa_plT hw (br_c (fun e => good (Or.inl e)) (fun ne => ?_))
    rcases hp_four v2 with ⟨c, hc, e⟩ | bad
    · have g := good (Or.inr ⟨c, hc, e⟩)
      subst e
      exact xa_kdT hc g
    · refine xa_kdF bad (ya_plT hw (ya_kin (fun _ _ => br_t rfl ⟨rfl, J⟩) (fun h => ?_)))
      exfalso
      rcases h with e | ⟨c, hc, e⟩
      · exact ne e
      · rw [e] at bad
        rcases bad with b | b
        · exact nI_pos (by omega) b
        · exact nI_ge hc (by decide) b
  · exact xa_plF bad (ya_plF bad ⟨rfl, J⟩)
end
end
section
/-! heaviest and grown: the same fold on both sides; leaked; holders -/
section
variable {P T K G F R A L : Nat → Int32} {w : Nat}
noncomputable def hp_own (G F R : Nat → Int32) (w o : Nat) : Int32 := hp_sum G w (hp_lost F w (hp_rts R w) (hp_o o)) 24
noncomputable def hp_hv (G F R : Nat → Int32) (w : Nat) : Nat → Int32 × Int32
  | 0 => (-3, 0)
  | n + 1 => if bt (hp_clo F w (hp_rts R w) 0) n = true ∧ ¬ hp_own G F R w n ≤ (hp_hv G F R w n).2 then (nI n, hp_own G F R w n) else hp_hv G F R w n
theorem hp_hv_t {n : Nat} (h : bt (hp_clo F w (hp_rts R w) 0) n = true ∧ ¬ hp_own G F R w n ≤ (hp_hv G F R w n).2) : hp_hv G F R w (n + 1) = (nI n, hp_own G F R w n) := if_pos h
theorem hp_hv_f {n : Nat} (h : ¬ (bt (hp_clo F w (hp_rts R w) 0) n = true ∧ ¬ hp_own G F R w n ≤ (hp_hv G F R w n).2)) : hp_hv G F R w (n + 1) = hp_hv G F R w n := if_neg h
theorem hp_hv_0 : ∀ n, 0 ≤ (hp_hv G F R w n).2
  | 0 => by show (0 : Int32) ≤ 0; decide
  | n + 1 => by
    have ih := hp_hv_0 n
    by_cases h : bt (hp_clo F w (hp_rts R w) 0) n = true ∧ ¬ hp_own G F R w n ≤ (hp_hv G F R w n).2
    · rw [hp_hv_t h]
      have := h.2
      rw [Int32.le_iff_toInt_le] at this ih ⊢
      show (0 : Int32).toInt ≤ (hp_own G F R w n).toInt
      omega
    · rw [hp_hv_f h]; exact ih
theorem i_vc_heaviest {k : Nat} {u : SX} {v : SY} (I : i_Rel k u v) (hk : k + 4 ≤ 2048) (v1 : Int32) : wpX_heaviest (fun r => wpY_heaviest (fun r' => r' = r ∧ i_Rel (k + 4) u v) v v1) u v1 := by
  have J := I
  obtain ⟨P, K, G, F, R, T, A, L, rfl, rfl, ok, hT⟩ := I
  unfold wpX_heaviest wpY_heaviest
  dsimp only
  rcases hp_place v1 with ⟨w, hw, rfl⟩ | bad
  · have hY : ∀ post : Int32 → Prop, post (hp_hv G F R w 24).1 → ∃ n, wY_heaviest_18 post (nI w) T K G F R A L n (-3) 0 0 := by
      intro post h
      refine loop_0 (σ := Int32 × Int32) (fun n i q => wY_heaviest_18 post (nI w) T K G F R A L n q.1 q.2 (nI i)) (fun i q => q = hp_hv G F R w i) 24 (-3, 0) rfl ?_ ?_
      · intro n q e; cases e
        exact br_t hp_le24 h
      · intro n i q hi e ih; cases e
        refine br_f (hp_n24 hi) (ya_isAlive ok hw (fun z => br_t rfl (br_t (hp_hv_0 i) (nm_r (nI_1 i) (ih (hp_hv G F R w i) (hp_hv_f (fun y => z ((hp_in_nI hi).mpr y.1))).symm)))) (fun z => br_f (by decide) (ya_kept ok hw (ya_sum hw (br_c (fun y => nm_r (nI_1 i) (ih (hp_hv G F R w i) (hp_hv_f (fun x => x.2 y)).symm)) (fun y => nm_r (nI_1 i) (ih (nI i, hp_own G F R w i) (hp_hv_t ⟨(hp_in_nI hi).mp z, y⟩).symm)))))))
    have hX : ∀ post : Int32 → Prop, post (hp_hv G F R w 24).1 → ∃ n, wX_heaviest_24 post (nI w) (hp_clo F w (hp_rts R w) 0) P K G F R n (-3) 0 0 := by
      intro post h
      refine loop_0 (σ := Int32 × Int32) (fun n i q => wX_heaviest_24 post (nI w) (hp_clo F w (hp_rts R w) 0) P K G F R n q.1 q.2 (nI i)) (fun i q => q = hp_hv G F R w i) 24 (-3, 0) rfl ?_ ?_
      · intro n q e; cases e
        exact br_t hp_le24 h
      · intro n i q hi e ih; cases e
        refine br_f (hp_n24 hi) (xa_if hi (fun z => nm_r (nI_1 i) (ih (hp_hv G F R w i) (hp_hv_f (fun y => z y.1)).symm)) (fun z => xa_lost ok hw (xa_sum hw (br_c (fun y => nm_r (nI_1 i) (ih (hp_hv G F R w i) (hp_hv_f (fun x => x.2 y)).symm)) (fun y => nm_r (nI_1 i) (ih (nI i, hp_own G F R w i) (hp_hv_t ⟨z, y⟩).symm))))))
    exact xa_plT hw (xa_alive ok hw (hX _ (ya_plT hw (hY _ ⟨rfl, J⟩))))
  · exact xa_plF bad (ya_plF bad ⟨rfl, J⟩)
noncomputable def hp_more (K G F R : Nat → Int32) (i : Nat) : Int32 := hp_by K G F R 2 (nI i) - hp_by K G F R 1 (nI i)
noncomputable def hp_gw (K G F R : Nat → Int32) : Nat → Int32 × Int32
  | 0 => (0, 0)
  | n + 1 => if n = 0 ∨ ¬ hp_more K G F R n ≤ (hp_gw K G F R n).2 then (nI n, hp_more K G F R n) else hp_gw K G F R n
theorem hp_gw_t {n : Nat} (h : n = 0 ∨ ¬ hp_more K G F R n ≤ (hp_gw K G F R n).2) : hp_gw K G F R (n + 1) = (nI n, hp_more K G F R n) := if_pos h
theorem hp_gw_f {n : Nat} (h : ¬ (n = 0 ∨ ¬ hp_more K G F R n ≤ (hp_gw K G F R n).2)) : hp_gw K G F R (n + 1) = hp_gw K G F R n := if_neg h
theorem hp_nI0 {n : Nat} (h : n < 24) : nI n = 0 ↔ n = 0 := by
  rw [← nI_0]
  exact nI_eq (by omega) (by omega)
theorem xa_bytes {post : Int32 → Prop} (ok : hp_ok P F R) (hw : w < 3) {c : Nat} (hc : c < 4) (h : post (hp_by K G F R w (nI c))) : wpX_bytes post (P, K, G, F, R) (nI w) (nI c) := by
  unfold wpX_bytes
  dsimp only
  exact xa_plT hw (br_f (hp_nI_m1 (by omega)) (xa_kdT hc (xa_bytes21 ok hw h)))
theorem i_vc_grown {k : Nat} {u : SX} {v : SY} (I : i_Rel k u v) (hk : k + 4 ≤ 2048) : wpX_grown (fun r => wpY_grown (fun r' => r' = r ∧ i_Rel (k + 4) u v) v) u := by
  have J := I
  obtain ⟨P, K, G, F, R, T, A, L, rfl, rfl, ok, hT⟩ := I
  unfold wpX_grown wpY_grown
  dsimp only
  have hY : ∀ post : Int32 → Prop, post (hp_gw K G F R 4).1 → ∃ n, wY_grown_6 post T K G F R A L n 0 0 0 := by
    intro post h
    refine loop_0 (σ := Int32 × Int32) (fun n i q => wY_grown_6 post T K G F R A L n q.1 q.2 (nI i)) (fun i q => q = hp_gw K G F R i) 4 (0, 0) rfl ?_ ?_
    · intro n q e; cases e
      exact br_t hp_le4 h
    · intro n i q hi e ih; cases e
      refine br_f (hp_n4 hi) (ya_live (w := 2) ok (by omega) (ya_kind (w := 2) (by omega) (ya_sum (w := 2) (by omega) (ya_live (w := 1) ok (by omega) (ya_kind (w := 1) (by omega) (ya_sum (w := 1) (by omega) (nm_r (e' := hp_more K G F R i) rfl (br_c (fun y => nm_r (nI_1 i) (ih (nI i, hp_more K G F R i) (hp_gw_t (Or.inl ((hp_nI0 (by omega)).mp y))).symm)) (fun y => br_c (fun z => nm_r (nI_1 i) (ih (hp_gw K G F R i) (hp_gw_f (fun x => x.elim (fun x => y ((hp_nI0 (by omega)).mpr x)) (fun x => x z))).symm)) (fun z => nm_r (nI_1 i) (ih (nI i, hp_more K G F R i) (hp_gw_t (Or.inr z)).symm)))))))))))
  have hX : ∀ post : Int32 → Prop, post (hp_gw K G F R 4).1 → ∃ n, wX_grown_6 post P K G F R n 0 0 0 := by
    intro post h
    refine loop_0 (σ := Int32 × Int32) (fun n i q => wX_grown_6 post P K G F R n q.1 q.2 (nI i)) (fun i q => q = hp_gw K G F R i) 4 (0, 0) rfl ?_ ?_
    · intro n q e; cases e
      exact br_t hp_le4 h
    · intro n i q hi e ih; cases e
      refine br_f (hp_n4 hi) (xa_bytes (w := 2) ok (by omega) hi (xa_bytes (w := 1) ok (by omega) hi (nm_r (e' := hp_more K G F R i) rfl (br_c (fun y => nm_r (nI_1 i) (ih (nI i, hp_more K G F R i) (hp_gw_t (Or.inl ((hp_nI0 (by omega)).mp y))).symm)) (fun y => br_c (fun z => nm_r (nI_1 i) (ih (hp_gw K G F R i) (hp_gw_f (fun x => x.elim (fun x => y ((hp_nI0 (by omega)).mpr x)) (fun x => x z))).symm)) (fun z => nm_r (nI_1 i) (ih (nI i, hp_more K G F R i) (hp_gw_t (Or.inr z)).symm)))))))
  exact hX _ (hY _ ⟨rfl, J⟩)
end
end
section
/-! collect, sweep, leaked -/
section
variable {P T K G F R A L : Nat → Int32}
def hp_lz (T : Nat → Int32) (s : Int32) (n : Nat) : Nat → Int32 := fun j => if j < n then (if T j = 0 then 0 else if bt s j = true then 0 else 1) else T j
theorem hp_lz_0 (T : Nat → Int32) (s : Int32) : hp_lz T s 0 = T := funext fun j => if_neg (by omega)
theorem hp_lz_hi {s : Int32} {n j : Nat} (h : n ≤ j) : hp_lz T s n j = T j := if_neg (by omega)
theorem hp_lz_lo {s : Int32} {n j : Nat} (h : j < n) : hp_lz T s n j = if T j = 0 then 0 else if bt s j = true then 0 else 1 := if_pos h
theorem hp_lz_s {s x : Int32} {n : Nat} (h : x = if T n = 0 then 0 else if bt s n = true then 0 else 1) : upd (hp_lz T s n) n x = hp_lz T s (n + 1) := by
  funext j
  by_cases z : j = n
  · subst z
    rw [pk_us, hp_lz_lo (by omega), h]
  · rw [pk_un z]
    by_cases y : j < n
    · rw [hp_lz_lo y, hp_lz_lo (by omega)]
    · rw [hp_lz_hi (by omega), hp_lz_hi (by omega)]
theorem ya_lose {post : SY → Prop} {s : Int32} (h : post (hp_lz T s 24, K, G, F, R, A, L)) : wpY_lose post (T, K, G, F, R, A, L) s := by
  refine loop_0 (fun n i t => wY_lose_2 post s n (nI i) t K G F R A L) (fun i t => t = hp_lz T s i) 24 T (hp_lz_0 T s).symm ?_ ?_
  · intro n t e; cases e
    exact br_t hp_le24 h
  · intro n i t hi e ih; cases e
    have hv : vp_in (nI i) 72 := vp_in_nI (by omega) (by decide)
    have ec : (nI i).toNatClampNeg = i := nI_clamp (by omega)
    refine br_f (hp_n24 hi) ⟨hv, ?_⟩
    rw [ec, hp_lz_hi (Nat.le_refl i)]
    refine br_c (fun z => ⟨hv, nm_r (hp_lz_s ?_) (nm_r (nI_1 i) (ih _ rfl))⟩) (fun z => br_c (fun y => ⟨hv, nm_r (hp_lz_s ?_) (nm_r (nI_1 i) (ih _ rfl))⟩) (fun y => ⟨hv, nm_r (hp_lz_s ?_) (nm_r (nI_1 i) (ih _ rfl))⟩))
    · rw [if_pos z]; exact hp_vb0
    · rw [if_neg z, if_neg (by rw [(hp_sh0 s (by omega)).mp y]; decide)]; exact hp_vb1
    · rw [if_neg z, if_pos (by
        cases e : bt s i
        · exact absurd ((hp_sh0 s (by omega)).mpr e) y
        · rfl)]
      exact hp_vb0
/-- those of g go -/
theorem hp_lose_rel (ok : hp_ok P F R) (hT : hp_T P T) {g : Int32} (h2 : ∀ i, bt (hp_rts R 0) i = true → bt (P 0 &&& (g ^^^ (-1))) i = true) (h3 : ∀ a p, bt (P 0 &&& (g ^^^ (-1))) a = true → hp_E F 0 a p → p < 24 → bt (P 0 &&& (g ^^^ (-1))) p = true) :
    hp_ok (upd P 0 (P 0 &&& (g ^^^ (-1)))) F R ∧ hp_T (upd P 0 (P 0 &&& (g ^^^ (-1)))) (hp_lz T g 24) := by
  refine ⟨hp_ok_cut ok (fun i h => (hp_andn_iff.mp h).1) h2 h3, hp_T_upd hT (w := 0) (by omega) (fun o ho => ?_) (fun j hj => hp_lz_hi (by omega))⟩
  rw [show 24 * 0 + o = o by omega, hp_lz_lo ho, hp_T0 hT ho]
  by_cases a : bt (P 0) o = true
  · by_cases b : bt g o = true
    · rw [if_pos a, if_neg (by decide), if_pos b, if_neg (fun z => (hp_andn_iff.mp z).2 b)]
    · rw [if_pos a, if_neg (by decide), if_neg b, if_pos (hp_andn_iff.mpr ⟨a, b⟩)]
  · rw [if_neg a, if_pos rfl, if_neg (fun z => a (hp_andn_iff.mp z).1)]
theorem hp_root_P (ok : hp_ok P F R) {w : Nat} (hw : w < 3) {i : Nat} (h : bt (hp_rts R w) i = true) : bt (P w) i = true :=
  hp_alive ok hw (b := 0) (hp_clo_start h hp_0)
/-- of those there only s stay -/
theorem hp_stay {p s : Int32} {i : Nat} : bt (p &&& ((p &&& (s ^^^ (-1))) ^^^ (-1))) i = true ↔ bt p i = true ∧ bt s i = true := by
  rw [hp_andn_iff, hp_andn_iff]
  by_cases a : bt s i = true
  · exact ⟨fun h => ⟨h.1, a⟩, fun h => ⟨h.1, fun z => z.2 a⟩⟩
  · exact ⟨fun h => absurd ⟨h.1, a⟩ h.2, fun h => absurd h.2 a⟩
theorem i_vc_collect {k : Nat} {u : SX} {v : SY} (I : i_Rel k u v) (hk : k + 4 ≤ 2048) : wpX_collect (fun r u' => wpY_collect (fun r' v' => r' = r ∧ i_Rel (k + 4) u' v') v) u := by
  obtain ⟨P, K, G, F, R, T, A, L, rfl, rfl, ok, hT⟩ := I
  have key := hp_lose_rel ok hT (g := P 0 &&& (hp_clo F 0 (hp_rts R 0) 0 ^^^ (-1))) (fun i h => hp_stay.mpr ⟨hp_root_P ok (by omega) h, hp_clo_start h hp_0⟩) (fun a p h he hp => by
    rw [hp_stay] at h ⊢
    have := hp_clo_step (hp_rts_S R 0) h.2 he hp hp_0
    exact ⟨hp_alive ok (by omega) this, this⟩)
  unfold wpX_collect wpY_collect
  dsimp only
  refine xa_alive (w := 0) ok (by omega) (nm_e (nm_e (xa_count (ya_all ok hT (ya_live (w := 0) ok (by omega) (nm_e (ya_lose (ya_bits ⟨rfl, ?_⟩))))))))
  exact ⟨_, _, _, _, _, _, _, _, rfl, rfl, key.1, key.2⟩
theorem ya_loose_step {post : Int32 → Prop} {J : Int32 → Int32 → Prop} (ok : hp_ok P F R) {t : Int32} (h : J (t &&& (hp_rts R 0 ||| hp_suc F 0 t)) t) : ∃ n, wY_loose_19 post J t t T K G F R A L n 0 0 := by
  refine loop_0 (fun n i x => wY_loose_19 post J t t T K G F R A L n x (nI i)) (fun i x => hp_rI R 0 i x) 4 0 hp_rI_0 ?_ ?_
  · intro n x hI
    rw [hp_rI_4 hI]
    refine br_t hp_le4 ?_
    refine loop_0 (fun n i x => wY_loose_60 post J t t T K G F R A L n x (nI i)) (fun i x => hp_sI F 0 t (hp_rts R 0) i x) 96 (hp_rts R 0) hp_sI_0 ?_ ?_
    · intro n x hI
      rw [hp_sI_96 hI]
      exact br_t hp_le96 (nm_e h)
    · intro n i x hi hI ih
      have e0 : 96 * 0 + i = i := by omega
      refine br_f (hp_n96 hi) ⟨hp_4ne, ?_⟩
      rw [hp_div4 hi]
      refine br_c (fun hb => ⟨vp_in_nI (by omega) (by decide), ?_⟩) (fun hb => br_t hp_m1neg (nm_r (nI_1 i) (ih _ (hp_sI_skip hI (fun z => absurd ((hp_shI t (by omega)).mpr z) hb)))))
      rw [nI_clamp (by omega : i < 2 ^ 31)]
      have hb' := (hp_shI t (by omega : i / 4 < 32)).mp hb
      rcases ok.2.1 i (by omega) with z | ⟨p, hp, e⟩
      · rw [z]
        exact br_t hp_m1neg (nm_r (nI_1 i) (ih _ (hp_sI_skip hI (fun _ => by rw [e0]; exact z))))
      · rw [e]
        exact br_f (nI_pos (by omega)) (nm_e (nm_r (nI_1 i) (ih _ (hp_sI_add hI hp hb' (by rw [e0]; exact e)))))
  · intro n i x hi hI ih
    have e0 : 4 * 0 + i = i := by omega
    have hv : vp_in (nI i) 12 := vp_in_nI (by omega) (by decide)
    refine br_f (hp_n4 hi) ⟨hv, ?_⟩
    rw [nI_clamp (by omega : i < 2 ^ 31)]
    have o := ok.2.2.1 0 i (by omega) hi
    rw [e0] at o
    rcases o with z | ⟨p, hp, e, _⟩
    · rw [z]
      exact br_t hp_m1neg (nm_r (nI_1 i) (ih _ (hp_rI_skip hI (by rw [e0]; exact z))))
    · rw [e]
      exact br_f (nI_pos (by omega)) ⟨hv, nm_e (nm_r (nI_1 i) (ih _ (hp_rI_add hI hp (by rw [e0]; exact e))))⟩
theorem ya_loose {post : Int32 → Prop} (ok : hp_ok P F R) (hT : hp_T P T) (h : post (P 0 &&& (hp_sw F (hp_rts R 0) (P 0) 24 ^^^ (-1)))) : wpY_loose post (T, K, G, F, R, A, L) := by
  have hP := ok.1 0 (by omega)
  unfold wpY_loose
  dsimp only
  refine ya_all ok hT ?_
  refine loop_m (σ := Int32 × Int32) (fun n q => wY_loose_7 post T K G F R A L n q.1 q.2) (fun q => ∃ k, q.1 = hp_sw F (hp_rts R 0) (P 0) k ∧ (q.2 = q.1 → hp_sw F (hp_rts R 0) (P 0) (k + 1) = hp_sw F (hp_rts R 0) (P 0) k)) (fun q => if q.2 = q.1 then 0 else 1 + hp_c q.1 24) ?_ (P 0, -1) ⟨0, rfl, fun e => absurd e (hp_S_m1 hP)⟩
  rintro n ⟨t, t0⟩ ⟨k, h1, h2⟩ ih
  dsimp only at h1 h2
  subst h1
  refine br_c (fun e => ?_) (fun ne => ?_)
  · refine ya_all ok hT ?_
    dsimp only
    rw [hp_sw_end hP (h2 e)]
    exact h
  · have next : wY_loose_7 post T K G F R A L n (hp_sw F (hp_rts R 0) (P 0) (k + 1)) (hp_sw F (hp_rts R 0) (P 0) k) := by
      refine ih (_, _) ⟨k + 1, rfl, fun e => hp_sw_stab _ _ _ k (Eq.symm e)⟩ ?_
      show (if hp_sw F (hp_rts R 0) (P 0) k = hp_sw F (hp_rts R 0) (P 0) (k + 1) then 0 else 1 + hp_c (hp_sw F (hp_rts R 0) (P 0) (k + 1)) 24) < (if t0 = hp_sw F (hp_rts R 0) (P 0) k then 0 else 1 + hp_c (hp_sw F (hp_rts R 0) (P 0) k) 24)
      have ne' : ¬ t0 = hp_sw F (hp_rts R 0) (P 0) k := ne
      rw [if_neg ne']
      by_cases z : hp_sw F (hp_rts R 0) (P 0) k = hp_sw F (hp_rts R 0) (P 0) (k + 1)
      · rw [if_pos z]; omega
      · rw [if_neg z]
        have := hp_sw_lt (F := F) (r := hp_rts R 0) hP (k := k) (fun y => z y.symm)
        omega
    exact ya_loose_step ok next
theorem i_vc_sweep {k : Nat} {u : SX} {v : SY} (I : i_Rel k u v) (hk : k + 4 ≤ 2048) : wpX_sweep (fun r u' => wpY_sweep (fun r' v' => r' = r ∧ i_Rel (k + 4) u' v') v) u := by
  obtain ⟨P, K, G, F, R, T, A, L, rfl, rfl, ok, hT⟩ := I
  have key := hp_lose_rel ok hT (g := P 0 &&& (hp_sw F (hp_rts R 0) (P 0) 24 ^^^ (-1))) (fun i h => hp_stay.mpr ⟨hp_root_P ok (by omega) h, hp_sw_root h (hp_root_P ok (by omega) h) 24⟩) (fun a p h he hp => by
    rw [hp_stay] at h ⊢
    have := hp_step_P ok (by omega) hp h.1 he
    exact ⟨this, hp_sw_ref he hp this 24 h.2⟩)
  unfold wpX_sweep wpY_sweep
  dsimp only
  refine xa_left ok (nm_e (nm_e (xa_count (ya_loose ok hT (ya_lose (ya_bits ⟨rfl, ?_⟩))))))
  exact ⟨_, _, _, _, _, _, _, _, rfl, rfl, key.1, key.2⟩
theorem i_vc_leaked {k : Nat} {u : SX} {v : SY} (I : i_Rel k u v) (hk : k + 4 ≤ 2048) : wpX_leaked (fun r => wpY_leaked (fun r' => r' = r ∧ i_Rel (k + 4) u v) v) u := by
  have J := I
  obtain ⟨P, K, G, F, R, T, A, L, rfl, rfl, ok, hT⟩ := I
  unfold wpX_leaked wpY_leaked
  dsimp only
  refine xa_left ok (xa_alive (w := 0) ok (by omega) (nm_e (xa_count (ya_all ok hT (ya_live (w := 0) ok (by omega) (ya_loose ok hT (ya_bits ⟨?_, J⟩)))))))
  refine congrArg (fun s => hp_cn s 24) (hp_ext fun i => ?_)
  rw [hp_andn_iff, hp_andn_iff, hp_andn_iff, hp_andn_iff]
  have sub := hp_sw_P F (hp_rts R 0) (P 0) 24 i
  constructor
  · rintro ⟨⟨h1, h2⟩, h3⟩
    exact ⟨Classical.byContradiction fun z => h3 ⟨h1, z⟩, h2⟩
  · rintro ⟨h1, h2⟩
    exact ⟨⟨sub h1, h2⟩, fun z => z.2 h1⟩
end
end
section
/-! a new object; root, field, make -/
section
variable {P T K G F R A L : Nat → Int32}
theorem xa_init {post : SX → Prop} (h : post (fun _ => 0, fun _ => 0, fun _ => 0, fun _ => 0, hp_fl (fun _ => 0) 0 12)) : wpX_init post := by
  refine loop_0 (fun n i r => wX_init_46 post n (nI i) (fun _ => 0) (fun _ => 0) (fun _ => 0) (fun _ => 0) r) (fun i r => r = hp_fl (fun _ => 0) 0 i) 12 (fun _ => 0) (hp_fl_0 _ 0).symm ?_ ?_
  · intro n r e; cases e
    exact br_t (by decide +kernel : (12 : Int32) ≤ nI 12) h
  · intro n i r hi e ih; cases e
    have s := hp_fl_s (fun _ => 0) 0 i
    rw [Nat.zero_add] at s
    refine br_f (nI_ge (b := 12) hi (by decide)) ⟨vp_in_nI hi (by decide), nm_r ?_ (nm_r (nI_1 i) (ih _ rfl))⟩
    rw [nI_clamp (by omega : i < 2 ^ 31)]
    exact s
theorem ya_init {post : SY → Prop} (h : post (fun _ => 0, fun _ => 0, fun _ => 0, fun _ => 0, hp_fl (fun _ => 0) 0 12, fun _ => 0, fun _ => 0)) : wpY_init post := by
  refine loop_0 (fun n i r => wY_init_63 post n (nI i) (fun _ => 0) (fun _ => 0) (fun _ => 0) (fun _ => 0) r (fun _ => 0) (fun _ => 0)) (fun i r => r = hp_fl (fun _ => 0) 0 i) 12 (fun _ => 0) (hp_fl_0 _ 0).symm ?_ ?_
  · intro n r e; cases e
    exact br_t (by decide +kernel : (12 : Int32) ≤ nI 12) h
  · intro n i r hi e ih; cases e
    have s := hp_fl_s (fun _ => 0) 0 i
    rw [Nat.zero_add] at s
    refine br_f (nI_ge (b := 12) hi (by decide)) ⟨vp_in_nI hi (by decide), nm_r ?_ (nm_r (nI_1 i) (ih _ rfl))⟩
    rw [nI_clamp (by omega : i < 2 ^ 31)]
    exact s
theorem i_vc0 : wpX_init (fun u => wpY_init (fun v => i_Rel 0 u v)) :=
  xa_init (ya_init ⟨_, _, _, _, _, _, _, _, rfl, rfl, hp_ok_0, hp_T_0⟩)
theorem hp_ref_iff {s x : Int32} : hp_ref s x ↔ x = -1 ∨ hp_in s x := Iff.rfl
theorem xa_ref {C B : Prop} {x : Int32} (h0 : ¬ hp_ref (P 0) x → C) (h1 : hp_ref (P 0) x → B) : wpX_canBeReferredTo (fun r => (r = 0 → C) ∧ (¬ r = 0 → B)) (P, K, G, F, R) x := by
  refine br_c (fun e => br_f (by decide) (h1 (Or.inl e))) (fun ne => xa_ifG (fun h => br_t rfl (h0 (fun z => ?_))) (fun h => br_f (by decide) (h1 (Or.inr h))))
  exact z.elim ne h
theorem ya_isObject {post : Int32 → Prop} (hT : hp_T P T) {x : Int32} (h0 : ¬ hp_in (P 0) x → post 0) (h1 : hp_in (P 0) x → post 1) : wpY_isObject post (T, K, G, F, R, A, L) x := by
  have bad : (x < 0 ∨ nI 24 ≤ x) → ¬ hp_in (P 0) x := by
    rintro h ⟨j, hj, e, _⟩
    rw [e] at h
    rcases h with h | h
    · exact nI_pos (by omega) h
    · exact nI_ge hj (by decide) h
  unfold wpY_isObject
  dsimp only
  rcases pk_ix x (n := 24) (by decide) with h | h | ⟨j, hj, e⟩
  · refine ya_out (n := 23) (by decide) (Or.inl h) ?_
    exact br_t rfl (h0 (bad (Or.inl h)))
  · refine ya_out (n := 23) (by decide) (Or.inr h) ?_
    exact br_t rfl (h0 (bad (Or.inr h)))
  · subst e
    refine ya_in (j := j) (n := 23) (by omega) (by decide) ?_
    refine br_f (by decide) ⟨vp_in_nI (by omega) (by decide), ?_⟩
    rw [nI_clamp (by omega : j < 2 ^ 31), hp_T0 hT hj]
    by_cases hb : bt (P 0) j = true
    · rw [if_pos hb]
      exact br_f (by decide) (h1 ((hp_in_nI hj).mpr hb))
    · rw [if_neg hb]
      exact br_t rfl (h0 (fun z => hb ((hp_in_nI hj).mp z)))
theorem i_vc_root {k : Nat} {u : SX} {v : SY} (I : i_Rel k u v) (hk : k + 4 ≤ 2048) (v1 : Int32) (v2 : Int32) : wpX_root (fun r u' => wpY_root (fun r' v' => r' = r ∧ i_Rel (k + 4) u' v') v v1 v2) u v1 v2 := by
  have J := I
  obtain ⟨P, K, G, F, R, T, A, L, rfl, rfl, ok, hT⟩ := I
  unfold wpX_root wpY_root
  dsimp only
  rcases hp_four v1 with ⟨r, hr, rfl⟩ | bad
  · refine xa_rtT hr (xa_ref (fun n => ?_) (fun h => ?_))
    · refine ya_4T hr (br_f (fun e => n (Or.inl e)) (ya_isObject hT (fun _ => br_t rfl ⟨rfl, J⟩) (fun h => absurd (Or.inr h) n)))
    · have hv : vp_in (nI r) 12 := vp_in_nI (by omega) (by decide)
      have ec : (nI r).toNatClampNeg = r := nI_clamp (by omega)
      have fin : wY_root_28 (fun r' v' => r' = R r ∧ i_Rel (k + 4) (P, K, G, F, upd R r v2) v') (nI r) v2 T K G F R A L := by
        refine ⟨hv, nm_e ⟨hv, nm_e ⟨?_, ?_⟩⟩⟩
        · rw [ec]
        · rw [ec]
          exact ⟨_, _, _, _, _, _, _, _, rfl, rfl, hp_ok_root ok hr h, hT⟩
      refine ⟨hv, nm_r (congrArg R ec) ⟨hv, nm_r (congrArg (fun j => upd R j v2) ec) ?_⟩⟩
      refine ya_4T hr (br_c (fun _ => fin) (fun ne => ya_isObject hT (fun n => ?_) (fun _ => br_f (by decide) fin)))
      exact absurd (h.resolve_left ne) n
  · exact xa_rtF bad (ya_4F bad ⟨rfl, J⟩)
theorem i_vc_field {k : Nat} {u : SX} {v : SY} (I : i_Rel k u v) (hk : k + 4 ≤ 2048) (v1 : Int32) (v2 : Int32) (v3 : Int32) : wpX_field (fun r u' => wpY_field (fun r' v' => r' = r ∧ i_Rel (k + 4) u' v') v v1 v2 v3) u v1 v2 v3 := by
  have J := I
  obtain ⟨P, K, G, F, R, T, A, L, rfl, rfl, ok, hT⟩ := I
  unfold wpX_field wpY_field
  dsimp only
  rcases hp_four v2 with ⟨f, hf, rfl⟩ | bad
  · refine br_f (nI_pos (by omega)) (br_t (nI_lt (b := 4) hf (by decide)) (xa_ifG (fun n => ?_) (fun ho => ?_)))
    · exact ya_4T hf (ya_isObject hT (fun _ => br_t rfl ⟨rfl, J⟩) (fun h => absurd h n))
    · refine xa_ref (fun n => ?_) (fun h => ?_)
      · exact ya_4T hf (ya_isObject hT (fun n => absurd ho n) (fun _ => br_f (by decide) (br_f (fun e => n (Or.inl e)) (ya_isObject hT (fun _ => br_t rfl ⟨rfl, J⟩) (fun h => absurd (Or.inr h) n)))))
      · have ho' := ho
        obtain ⟨o, ho24, rfl, hb⟩ := ho'
        have hx : vp_in (nI o * 4 + nI f) 288 := pk_in (4 * o + f) 288 (by omega) (hp_ixr o f)
        have ex : (nI o * 4 + nI f).toNatClampNeg = 4 * o + f := pk_cl (4 * o + f) (hp_ixr o f)
        have hy : vp_in (4 * nI o + nI f) 288 := pk_in (4 * o + f) 288 (by omega) (hp_ixR o f)
        have ey : (4 * nI o + nI f).toNatClampNeg = 4 * o + f := pk_cl (4 * o + f) (hp_ixR o f)
        have fin : wY_field_36 (fun r' v' => r' = F (4 * o + f) ∧ i_Rel (k + 4) (P, K, G, upd F (4 * o + f) v3, R) v') (nI o) (nI f) v3 T K G F R A L := by
          refine ⟨hy, nm_e ⟨hy, nm_e ⟨?_, ?_⟩⟩⟩
          · rw [ey]
          · rw [ey]
            exact ⟨_, _, _, _, _, _, _, _, rfl, rfl, hp_ok_field ok (by omega) h, hT⟩
        refine ⟨hx, nm_r (congrArg F ex) ⟨hx, nm_r (congrArg (fun j => upd F j v3) ex) ?_⟩⟩
        refine ya_4T hf (ya_isObject hT (fun n => absurd ho n) (fun _ => br_f (by decide) (br_c (fun _ => fin) (fun ne => ya_isObject hT (fun n => ?_) (fun _ => br_f (by decide) fin)))))
        exact absurd (h.resolve_left ne) n
  · refine br_c (fun _ => ya_4F bad ⟨rfl, J⟩) (fun n => br_f ?_ (ya_4F bad ⟨rfl, J⟩))
    intro z
    exact Int32.not_lt.mpr (bad.resolve_left n) z
theorem xa_make81 {post : Int32 → SX → Prop} {r a : Nat} (hr : r < 4) (ha : a < 24) (h : post (nI a) (P, K, G, hp_fl F (4 * a) 4, upd R r (nI a))) : ∃ n, wX_make_81 post (nI r) (nI a) n 0 P K G F R := by
  refine loop_0 (fun n i f => wX_make_81 post (nI r) (nI a) n (nI i) P K G f R) (fun i f => f = hp_fl F (4 * a) i) 4 F (hp_fl_0 _ _).symm ?_ ?_
  · intro n f e; cases e
    refine br_t hp_le4 ⟨vp_in_nI (by omega) (by decide), nm_r (congrArg (fun j => upd R j (nI a)) (nI_clamp (by omega : r < 2 ^ 31))) h⟩
  · intro n i f hi e ih; cases e
    refine br_f (hp_n4 hi) ⟨pk_in (4 * a + i) 288 (by omega) (hp_ixr a i), nm_r ?_ (nm_r (nI_1 i) (ih _ rfl))⟩
    rw [pk_cl (4 * a + i) (hp_ixr a i)]
    exact hp_fl_s F (4 * a) i
theorem ya_make96 {post : Int32 → SY → Prop} {r a : Nat} (hr : r < 4) (ha : a < 24) (h : post (nI a) (T, K, G, hp_fl F (4 * a) 4, upd R r (nI a), A, L)) : ∃ n, wY_make_96 post (nI r) (nI a) n 0 T K G F R A L := by
  refine loop_0 (fun n i f => wY_make_96 post (nI r) (nI a) n (nI i) T K G f R A L) (fun i f => f = hp_fl F (4 * a) i) 4 F (hp_fl_0 _ _).symm ?_ ?_
  · intro n f e; cases e
    refine br_t hp_le4 ⟨vp_in_nI (by omega) (by decide), nm_r (congrArg (fun j => upd R j (nI a)) (nI_clamp (by omega : r < 2 ^ 31))) h⟩
  · intro n i f hi e ih; cases e
    refine br_f (hp_n4 hi) ⟨pk_in (4 * a + i) 288 (by omega) (hp_ixR a i), nm_r ?_ (nm_r (nI_1 i) (ih _ rfl))⟩
    rw [pk_cl (4 * a + i) (hp_ixR a i)]
    exact hp_fl_s F (4 * a) i
/-- the reference's scan for the least number that no object has -/
theorem ya_make36 {post : Int32 → SY → Prop} {x1 x2 x3 : Int32} (hT : hp_T P T) {a : Nat} (ha : a ≤ 24) (hlo : ∀ i, i < a → bt (P 0) i = true) (hhi : a < 24 → ¬ bt (P 0) a = true) (h : wY_make_59 post x1 x2 x3 (nI a) T K G F R A L) : ∃ n, wY_make_36 post x1 x2 x3 T K G F R A L n 0 := by
  refine loop_0 (fun n i (_ : Unit) => wY_make_36 post x1 x2 x3 T K G F R A L n (nI i)) (fun _ _ => True) a () trivial ?_ ?_
  · intro n _ _
    rcases Nat.lt_or_ge a 24 with z | z
    · refine br_f (hp_n24 z) ⟨vp_in_nI (by omega) (by decide), ?_⟩
      rw [nI_clamp (by omega : a < 2 ^ 31), hp_T0 hT z, if_neg (hhi z)]
      exact br_t rfl h
    · exact br_t (nI_le (a := 24) z (by omega)) h
  · intro n i _ hi _ ih
    refine br_f (hp_n24 (by omega)) ⟨vp_in_nI (by omega) (by decide), ?_⟩
    rw [nI_clamp (by omega : i < 2 ^ 31), hp_T0 hT (by omega), if_pos (hlo i hi)]
    exact br_f (by decide) (nm_r (nI_1 i) (ih () trivial))
theorem hp_T_make (hT : hp_T P T) {a : Nat} (ha : a < 24) : hp_T (upd P 0 (P 0 ||| hp_o a)) (upd T a 1) := by
  refine hp_T_upd hT (w := 0) (by omega) (fun o ho => ?_) (fun j hj => pk_un (by omega))
  rw [show 24 * 0 + o = o by omega]
  by_cases z : o = a
  · subst z
    rw [pk_us, if_pos ((hp_or_one (by omega)).mpr (Or.inr rfl))]
  · rw [pk_un z, hp_T0 hT ho]
    by_cases b : bt (P 0) o = true
    · rw [if_pos b, if_pos ((hp_or_one (by omega)).mpr (Or.inl b))]
    · rw [if_neg b, if_neg (fun y => ((hp_or_one (by omega)).mp y).elim b z)]
theorem i_vc_make {k : Nat} {u : SX} {v : SY} (I : i_Rel k u v) (hk : k + 4 ≤ 2048) (v1 : Int32) (v2 : Int32) (v3 : Int32) : wpX_make (fun r u' => wpY_make (fun r' v' => r' = r ∧ i_Rel (k + 4) u' v') v v1 v2 v3) u v1 v2 v3 := by
  have J := I
  obtain ⟨P, K, G, F, R, T, A, L, rfl, rfl, ok, hT⟩ := I
  unfold wpX_make wpY_make
  dsimp only
  rcases hp_four v1 with ⟨r, hr, rfl⟩ | bad
  · rcases hp_four v2 with ⟨c, hc, rfl⟩ | bad
    · refine xa_rtT hr (xa_kdT hc (br_c (fun z => ?_) (fun z => br_c (fun y => ?_) (fun y => ?_))))
      · exact ya_4T hr (ya_4T hc (br_t z (br_t rfl ⟨rfl, J⟩)))
      · have not : ∀ i, i < 24 → (bt (P 0 ^^^ (-1)) i = true ↔ ¬ bt (P 0) i = true) := fun i hi => by
          rw [hp_not (P 0) (by omega)]
          cases bt (P 0) i <;> decide
        refine xa_least ?_
        rcases hp_ls_cases (P 0 ^^^ (-1)) with ⟨e, full⟩ | ⟨a, ha, e, hb, hc'⟩
        · rw [e]
          refine br_t rfl (ya_4T hr (ya_4T hc (br_f z (br_f (Int32.not_lt.mpr y) (br_f (by decide) (ya_make36 hT (a := 24) (Nat.le_refl _) (fun i hi => Classical.byContradiction fun q => full i hi ((not i hi).mpr q)) (fun q => absurd q (by omega)) ?_))))))
          exact br_t rfl ⟨rfl, J⟩
        · rw [e]
          have hv : vp_in (nI a) 72 := vp_in_nI (by omega) (by decide)
          have ec : (nI a).toNatClampNeg = a := nI_clamp (by omega)
          refine br_f (hp_nI_m1 ha) (nm_e ⟨hv, nm_e ⟨hv, nm_e (xa_make81 hr ha (ya_4T hr (ya_4T hc (br_f z (br_f (Int32.not_lt.mpr y) (br_f (by decide) (ya_make36 hT (a := a) (by omega) (fun i hi => Classical.byContradiction fun q => hc' i hi ((not i (by omega)).mpr q)) (fun _ => (not a ha).mp hb) ?_)))))))⟩⟩)
          refine br_f (fun q => ?_) ⟨hv, nm_e ⟨hv, nm_e ⟨hv, nm_e (ya_make96 hr ha ⟨rfl, ?_⟩)⟩⟩⟩
          · have : nI a = nI 24 := q
            rw [nI_eq (by omega) (by omega)] at this
            omega
          · rw [ec]
            exact ⟨_, _, _, _, _, _, _, _, rfl, rfl, hp_ok_make ok ha hr, hp_T_make hT ha⟩
      · refine ya_4T hr (ya_4T hc (br_f z (br_t ?_ (br_t rfl ⟨rfl, J⟩))))
        exact Int32.not_le.mp y
    · exact xa_rtT hr (xa_kdF bad (ya_4T hr (ya_4F bad ⟨rfl, J⟩)))
  · exact xa_rtF bad (ya_4F bad ⟨rfl, J⟩)
end
end
section
/-! dump -/
section
variable {P T K G F R A L : Nat → Int32} {w : Nat}
theorem xa_dump122 {post : Int32 → SX → Prop} {s : Int32} (h0 : 0 < w) (hw : w < 3) (h : post (hp_cn s 24) (P, K, G, F, hp_cp R (4 * w) 4)) : ∃ n, wX_dump_122 post (nI w) s n 0 P K G F R := by
  refine loop_0 (fun n i r => wX_dump_122 post (nI w) s n (nI i) P K G F r) (fun i r => r = hp_cp R (4 * w) i) 4 R (hp_cp_0 _ _).symm ?_ ?_
  · intro n r e; cases e
    exact br_t hp_le4 (xa_count h)
  · intro n i r hi e ih; cases e
    refine br_f (hp_n4 hi) ⟨vp_in_nI (by omega) (by decide), pk_in (4 * w + i) 12 (by omega) (hp_ixr w i), nm_r ?_ (nm_r (nI_1 i) (ih _ rfl))⟩
    rw [nI_clamp (by omega : i < 2 ^ 31), pk_cl (4 * w + i) (hp_ixr w i)]
    exact hp_cp_s (by omega)
theorem hp_ixd (w m : Nat) : ((nI w * 24) * 4) + nI m = nI (96 * w + m) := by
  show ((nI w * nI 24) * nI 4) + nI m = _
  rw [pk_mul, pk_mul, nI_add]
  exact congrArg nI (by omega)
theorem xa_dump85 {post : Int32 → SX → Prop} {s : Int32} (h0 : 0 < w) (hw : w < 3) (h : post (hp_cn s 24) (P, K, G, hp_cp F (96 * w) 96, hp_cp R (4 * w) 4)) : ∃ n, wX_dump_85 post (nI w) s n 0 P K G F R := by
  refine loop_0 (fun n i f => wX_dump_85 post (nI w) s n (nI i) P K G f R) (fun i f => f = hp_cp F (96 * w) i) 96 F (hp_cp_0 _ _).symm ?_ ?_
  · intro n f e; cases e
    exact br_t hp_le96 (xa_dump122 h0 hw h)
  · intro n i f hi e ih; cases e
    refine br_f (hp_n96 hi) ⟨vp_in_nI (by omega) (by decide), pk_in (96 * w + i) 288 (by omega) (hp_ixd w i), nm_r ?_ (nm_r (nI_1 i) (ih _ rfl))⟩
    rw [nI_clamp (by omega : i < 2 ^ 31), pk_cl (96 * w + i) (hp_ixd w i)]
    exact hp_cp_s (by omega)
theorem xa_dump31 {post : Int32 → SX → Prop} {s : Int32} (h0 : 0 < w) (hw : w < 3) (h : post (hp_cn s 24) (P, hp_cp K (24 * w) 24, hp_cp G (24 * w) 24, hp_cp F (96 * w) 96, hp_cp R (4 * w) 4)) : ∃ n, wX_dump_31 post (nI w) s n 0 P K G F R := by
  refine loop_0 (σ := (Nat → Int32) × (Nat → Int32)) (fun n i q => wX_dump_31 post (nI w) s n (nI i) P q.1 q.2 F R) (fun i q => q = (hp_cp K (24 * w) i, hp_cp G (24 * w) i)) 24 (K, G) (by rw [hp_cp_0, hp_cp_0]) ?_ ?_
  · intro n q e; cases e
    exact br_t hp_le24 (xa_dump85 h0 hw h)
  · intro n i q hi e ih; cases e
    have e1 : (nI i).toNatClampNeg = i := nI_clamp (by omega)
    have e2 := pk_cl (24 * w + i) (hp_ixo w i)
    have v1 : vp_in (nI i) 72 := vp_in_nI (by omega) (by decide)
    have v2 : vp_in (nI w * 24 + nI i) 72 := pk_in (24 * w + i) 72 (by omega) (hp_ixo w i)
    refine br_f (hp_n24 hi) ⟨v1, v2, nm_r (e' := hp_cp K (24 * w) (i + 1)) ?_ ⟨v1, v2, nm_r (e' := hp_cp G (24 * w) (i + 1)) ?_ (nm_r (nI_1 i) (ih (_, _) rfl))⟩⟩
    · rw [e1, e2]; exact hp_cp_s (by omega)
    · rw [e1, e2]; exact hp_cp_s (by omega)
/-- the reference's row of who is there, n of the dump's done -/
def hp_tp (T : Nat → Int32) (b : Nat) (s : Int32) (n : Nat) : Nat → Int32 := fun j => if b ≤ j ∧ j < b + n then (if bt s (j - b) = true then 1 else 0) else T j
theorem hp_tp_0 (b : Nat) (s : Int32) : hp_tp T b s 0 = T := funext fun j => if_neg (by omega)
theorem hp_tp_s {b n : Nat} {s x : Int32} (h : x = if bt s n = true then 1 else 0) : upd (hp_tp T b s n) (b + n) x = hp_tp T b s (n + 1) := by
  funext j
  by_cases z : j = b + n
  · subst z
    rw [pk_us]
    unfold hp_tp
    rw [if_pos (by omega), Nat.add_sub_cancel_left, h]
  · rw [pk_un z]
    unfold hp_tp
    by_cases y : b ≤ j ∧ j < b + n
    · rw [if_pos y, if_pos (show b ≤ j ∧ j < b + (n + 1) by omega)]
    · rw [if_neg y, if_neg (show ¬ (b ≤ j ∧ j < b + (n + 1)) by omega)]
theorem ya_dump151 {post : Int32 → SY → Prop} {s : Int32} (h0 : 0 < w) (hw : w < 3) (h : post (hp_cn s 24) (T, K, G, F, hp_cp R (4 * w) 4, A, L)) : ∃ n, wY_dump_151 post s (nI w) n 0 T K G F R A L := by
  refine loop_0 (fun n i r => wY_dump_151 post s (nI w) n (nI i) T K G F r A L) (fun i r => r = hp_cp R (4 * w) i) 4 R (hp_cp_0 _ _).symm ?_ ?_
  · intro n r e; cases e
    exact br_t hp_le4 (ya_bits h)
  · intro n i r hi e ih; cases e
    refine br_f (hp_n4 hi) ⟨vp_in_nI (by omega) (by decide), pk_in (4 * w + i) 12 (by omega) (hp_ixR w i), nm_r ?_ (nm_r (nI_1 i) (ih _ rfl))⟩
    rw [nI_clamp (by omega : i < 2 ^ 31), pk_cl (4 * w + i) (hp_ixR w i)]
    exact hp_cp_s (by omega)
theorem ya_dump101 {post : Int32 → SY → Prop} {J : Int32 → (Nat → Int32) → (Nat → Int32) → (Nat → Int32) → (Nat → Int32) → (Nat → Int32) → (Nat → Int32) → (Nat → Int32) → Prop} {s : Int32} {o : Nat} (h0 : 0 < w) (hw : w < 3) (ho : o < 24) (h : J (nI (o + 1)) T K G (hp_cp F (96 * w) (4 * (o + 1))) R A L) : ∃ n, wY_dump_101 post J s (nI w) (nI o) n 0 T K G (hp_cp F (96 * w) (4 * o)) R A L := by
  refine loop_0 (fun n i f => wY_dump_101 post J s (nI w) (nI o) n (nI i) T K G f R A L) (fun i f => f = hp_cp F (96 * w) (4 * o + i)) 4 (hp_cp F (96 * w) (4 * o)) rfl ?_ ?_
  · intro n f e; cases e
    exact br_t hp_le4 (nm_r (nI_1 o) h)
  · intro n i f hi e ih; cases e
    refine br_f (hp_n4 hi) ⟨pk_in (4 * o + i) 288 (by omega) (hp_ixR o i), pk_in (96 * w + (4 * o + i)) 288 (by omega) (hp_ixG w o i), nm_r ?_ (nm_r (nI_1 i) (ih _ rfl))⟩
    rw [pk_cl (4 * o + i) (hp_ixR o i), pk_cl (96 * w + (4 * o + i)) (hp_ixG w o i)]
    exact hp_cp_s (by omega)
theorem ya_dump26 {post : Int32 → SY → Prop} {s : Int32} (h0 : 0 < w) (hw : w < 3) (h : post (hp_cn s 24) (hp_tp T (24 * w) s 24, hp_cp K (24 * w) 24, hp_cp G (24 * w) 24, hp_cp F (96 * w) 96, hp_cp R (4 * w) 4, A, L)) : ∃ n, wY_dump_26 post s (nI w) n 0 T K G F R A L := by
  refine loop_0 (σ := (Nat → Int32) × (Nat → Int32) × (Nat → Int32) × (Nat → Int32)) (fun n i q => wY_dump_26 post s (nI w) n (nI i) q.1 q.2.1 q.2.2.1 q.2.2.2 R A L) (fun i q => q = (hp_tp T (24 * w) s i, hp_cp K (24 * w) i, hp_cp G (24 * w) i, hp_cp F (96 * w) (4 * i))) 24 (T, K, G, F) (by rw [hp_tp_0, hp_cp_0, hp_cp_0, hp_cp_0]) ?_ ?_
  · intro n q e; cases e
    exact br_t hp_le24 (ya_dump151 h0 hw h)
  · intro n i q hi e ih; cases e
    have e1 : (nI i).toNatClampNeg = i := nI_clamp (by omega)
    have e2 := pk_cl (24 * w + i) (hp_ixO w i)
    have v1 : vp_in (nI i) 72 := vp_in_nI (by omega) (by decide)
    have v2 : vp_in (24 * nI w + nI i) 72 := pk_in (24 * w + i) 72 (by omega) (hp_ixO w i)
    have body : ∀ z : Int32, vp_nar .boolean z = (if bt s i = true then 1 else 0) → wY_dump_59 post (wY_dump_26 post s (nI w) n) s (nI w) (nI i) z (24 * nI w + nI i) (hp_tp T (24 * w) s i) (hp_cp K (24 * w) i) (hp_cp G (24 * w) i) (hp_cp F (96 * w) (4 * i)) R A L := by
      intro z hz
      refine ⟨v2, nm_r (e' := hp_tp T (24 * w) s (i + 1)) ?_ ⟨v1, v2, nm_r (e' := hp_cp K (24 * w) (i + 1)) ?_ ⟨v1, v2, nm_r (e' := hp_cp G (24 * w) (i + 1)) ?_ (ya_dump101 h0 hw hi (ih (_, _, _, _) rfl))⟩⟩⟩
      · rw [e2]; exact hp_tp_s hz
      · rw [e1, e2]; exact hp_cp_s (by omega)
      · rw [e1, e2]; exact hp_cp_s (by omega)
    refine br_f (hp_n24 hi) (br_c (fun b => body 1 ?_) (fun b => body 0 ?_))
    · rw [if_pos ((hp_shI s (by omega)).mp b)]; exact hp_vb1
    · rw [if_neg (fun z => b ((hp_shI s (by omega)).mpr z))]; exact hp_vb0
theorem hp_T_dump (hT : hp_T P T) (hw : w < 3) (s : Int32) : hp_T (upd P w s) (hp_tp T (24 * w) s 24) := by
  refine hp_T_upd hT hw (fun o ho => ?_) (fun j hj => if_neg hj)
  unfold hp_tp
  rw [if_pos (by omega), Nat.add_sub_cancel_left]
theorem i_vc_dump {k : Nat} {u : SX} {v : SY} (I : i_Rel k u v) (hk : k + 4 ≤ 2048) (v1 : Int32) : wpX_dump (fun r u' => wpY_dump (fun r' v' => r' = r ∧ i_Rel (k + 4) u' v') v v1) u v1 := by
  have J := I
  obtain ⟨P, K, G, F, R, T, A, L, rfl, rfl, ok, hT⟩ := I
  unfold wpX_dump wpY_dump
  dsimp only
  rcases pk_ix v1 (n := 2) (by decide) with bad | bad | ⟨d, hd, rfl⟩
  · refine br_t bad (ya_out (n := 1) (by decide) (Or.inl bad) ?_)
    exact br_t rfl ⟨rfl, J⟩
  · have h0 : ¬ v1 < 0 := fun z => by
      rw [Int32.lt_iff_toInt_lt] at z
      rw [Int32.le_iff_toInt_le, nI_toInt (by omega)] at bad
      have : (0 : Int32).toInt = 0 := by decide
      omega
    have h1 : ¬ v1 ≤ 1 := fun z => by
      rw [Int32.le_iff_toInt_le] at z
      rw [Int32.le_iff_toInt_le, nI_toInt (by omega)] at bad
      have : (1 : Int32).toInt = 1 := by decide
      omega
    refine br_f h0 (br_f h1 (ya_out (n := 1) (by decide) (Or.inr bad) ?_))
    exact br_t rfl ⟨rfl, J⟩
  · have ew : (1 : Int32) + nI d = nI (d + 1) := by
      show nI 1 + nI d = _
      rw [nI_add]
      exact congrArg nI (by omega)
    refine br_f (nI_pos (by omega)) (br_t (nI_le (b := 1) (by omega) (by decide)) (nm_r ew (xa_alive (w := 0) ok (by omega) ⟨vp_in_nI (by omega) (by decide), nm_r (congrArg (fun j => upd P j (hp_clo F 0 (hp_rts R 0) 0)) (nI_clamp (by omega : d + 1 < 2 ^ 31))) (xa_dump31 (by omega) (by omega) ?_)⟩)))
    refine ya_in (j := d) (n := 1) (by omega) (by decide) ?_
    refine br_f (by decide) (ya_live (w := 0) ok (by omega) (nm_r (nI_1 d) (ya_dump26 (by omega) (by omega) ⟨rfl, ?_⟩)))
    exact ⟨_, _, _, _, _, _, _, _, rfl, rfl, hp_ok_dump ok (by omega) (by omega), hp_T_dump hT (by omega) _⟩
end
end
section
/-! dominator -/
section
variable {P T K G F R A L : Nat → Int32} {w o : Nat}
noncomputable def hp_Ds (F : Nat → Int32) (w : Nat) (s : Int32) (o : Nat) : Int32 := hp_mk (fun a => !decide (a = o) && bt (hp_lost F w s (hp_o a)) o) 24
theorem hp_Ds_iff {s : Int32} {a : Nat} : bt (hp_Ds F w s o) a = true ↔ hp_D F w s o a := by
  unfold hp_Ds hp_D
  rw [hp_mk24]
  by_cases z : a = o <;> simp [z]
theorem xa_doms {post : Int32 → Prop} (ok : hp_ok P F R) (hw : w < 3) (ho : o < 24) (h : post (hp_Ds F w (hp_rts R w) o)) : wpX_dominatorsOf post (P, K, G, F, R) (nI w) (nI o) := by
  refine loop_0 (fun n i t => wX_dominatorsOf_5 post (nI w) (nI o) P K G F R n t (nI i)) (fun i t => t = hp_mk (fun a => !decide (a = o) && bt (hp_lost F w (hp_rts R w) (hp_o a)) o) i) 24 0 rfl ?_ ?_
  · intro n t e; cases e
    exact br_t hp_le24 h
  · intro n i t hi e ih; cases e
    refine br_f (hp_n24 hi) (br_c (fun e => nm_r (nI_1 i) (ih _ (hp_mk_f ?_).symm)) (fun ne => xa_lost ok hw (xa_if ho (fun b => nm_r (nI_1 i) (ih _ (hp_mk_f ?_).symm)) (fun b => nm_r (hp_mk_t (Q := fun a => !decide (a = o) && bt (hp_lost F w (hp_rts R w) (hp_o a)) o) ?_).symm (nm_r (nI_1 i) (ih _ rfl))))))
    · simp [hp_nI_inj hi ho e]
    · simp [b]
    · have : ¬ i = o := fun z => ne (by rw [z])
      simp [b, this]
theorem hp_DM_eq {s : Int32} (hs : hp_S s) {a : Nat} (h : hp_D F w s o a) : (hp_lost F w s (hp_o a) &&& hp_Ds F w s o) = hp_o a ↔ hp_DM F w s o a := by
  constructor
  · intro e
    refine ⟨h, fun b hb hl => ?_⟩
    have : bt (hp_lost F w s (hp_o a) &&& hp_Ds F w s o) b = true := hp_and_iff.mpr ⟨hl, hp_Ds_iff.mpr hb⟩
    rw [e] at this
    exact (hp_one_iff (by have := h.1; omega)).mp this
  · intro d
    refine hp_ext fun b => ?_
    rw [hp_and_iff, hp_Ds_iff, hp_one_iff (by have := h.1; omega)]
    constructor
    · rintro ⟨h1, h2⟩
      exact d.2 b h2 h1
    · rintro rfl
      exact ⟨hp_dm_self h.1 (hp_dm_alive hs h.1 h.2.2), h⟩
theorem xa_dom31 {post : Int32 → Prop} (ok : hp_ok P F R) (hw : w < 3) (h1 : ∀ a, hp_DM F w (hp_rts R w) o a → post (nI a)) (h0 : (∀ a, ¬ hp_DM F w (hp_rts R w) o a) → post (-1)) : ∃ n, wX_dominator_31 post (nI w) (hp_Ds F w (hp_rts R w) o) P K G F R n 0 := by
  refine loop_0 (fun n i (_ : Unit) => wX_dominator_31 post (nI w) (hp_Ds F w (hp_rts R w) o) P K G F R n (nI i)) (fun i _ => ∀ a, a < i → ¬ hp_DM F w (hp_rts R w) o a) 24 () (fun a ha => absurd ha (by omega)) ?_ ?_
  · intro n _ hI
    exact br_t hp_le24 (h0 (fun a d => hI a d.1.1 d))
  · intro n i _ hi hI ih
    have nx : ¬ hp_DM F w (hp_rts R w) o i → ∀ a, a < i + 1 → ¬ hp_DM F w (hp_rts R w) o a := fun z a ha => by
      by_cases y : a = i
      · rw [y]; exact z
      · exact hI a (by omega)
    refine br_f (hp_n24 hi) (xa_if hi (fun b => nm_r (nI_1 i) (ih () (nx (fun d => b (hp_Ds_iff.mpr d.1))))) (fun b => xa_lost ok hw ?_))
    have eq := hp_DM_eq (hp_rts_S R w) (hp_Ds_iff.mp b)
    exact br_c (fun e => h1 i (eq.mp e)) (fun e => nm_r (nI_1 i) (ih () (nx (fun d => e (eq.mpr d)))))
/-- the reference's search for the least set kept -/
def hp_dI (F R : Nat → Int32) (w o i : Nat) (x y : Int32) : Prop :=
  (x = -1 ∧ y = nI 25 ∧ ∀ a, a < i → ¬ hp_D F w (hp_rts R w) o a) ∨
  ∃ b, b < i ∧ x = nI b ∧ hp_D F w (hp_rts R w) o b ∧ y = nI (hp_c (hp_lost F w (hp_rts R w) (hp_o b)) 24) ∧ ∀ a, a < i → hp_D F w (hp_rts R w) o a → hp_c (hp_lost F w (hp_rts R w) (hp_o b)) 24 ≤ hp_c (hp_lost F w (hp_rts R w) (hp_o a)) 24
theorem hp_dI_skip {i : Nat} {x y : Int32} (h : hp_dI F R w o i x y) (hs : hp_D F w (hp_rts R w) o i → y ≤ nI (hp_c (hp_lost F w (hp_rts R w) (hp_o i)) 24)) : hp_dI F R w o (i + 1) x y := by
  have c0 := hp_c_le (hp_lost F w (hp_rts R w) (hp_o i)) 24
  rcases h with ⟨h1, h2, h3⟩ | ⟨b, h1, h2, h3, h4, h5⟩
  · refine Or.inl ⟨h1, h2, fun a ha d => ?_⟩
    by_cases z : a = i
    · subst z
      have := hs d
      rw [h2, nI_leI (by omega) (by omega)] at this
      omega
    · exact h3 a (by omega) d
  · refine Or.inr ⟨b, by omega, h2, h3, h4, fun a ha d => ?_⟩
    by_cases z : a = i
    · subst z
      have c1 := hp_c_le (hp_lost F w (hp_rts R w) (hp_o b)) 24
      have := hs d
      rw [h4, nI_leI (by omega) (by omega)] at this
      exact this
    · exact h5 a (by omega) d
theorem hp_dI_take {i : Nat} {x y : Int32} (h : hp_dI F R w o i x y) (d : hp_D F w (hp_rts R w) o i) (hs : ¬ y ≤ nI (hp_c (hp_lost F w (hp_rts R w) (hp_o i)) 24)) : hp_dI F R w o (i + 1) (nI i) (nI (hp_c (hp_lost F w (hp_rts R w) (hp_o i)) 24)) := by
  have c0 := hp_c_le (hp_lost F w (hp_rts R w) (hp_o i)) 24
  refine Or.inr ⟨i, by omega, rfl, d, rfl, fun a ha da => ?_⟩
  by_cases z : a = i
  · rw [z]; exact Nat.le_refl _
  · rcases h with ⟨_, _, h3⟩ | ⟨b, h1, h2, h3, h4, h5⟩
    · exact absurd da (h3 a (by omega))
    · have c1 := hp_c_le (hp_lost F w (hp_rts R w) (hp_o b)) 24
      rw [h4, nI_leI (by omega) (by omega)] at hs
      have := h5 a (by omega) da
      omega
theorem ya_dom31 {post : Int32 → Prop} (ok : hp_ok P F R) (hw : w < 3) (ho : o < 24) (h1 : ∀ a, hp_DM F w (hp_rts R w) o a → post (nI a)) (h0 : (∀ a, ¬ hp_DM F w (hp_rts R w) o a) → post (-1)) : ∃ n, wY_dominator_31 post (nI w) (nI o) T K G F R A L n (-1) 25 0 := by
  refine loop_0 (σ := Int32 × Int32) (fun n i q => wY_dominator_31 post (nI w) (nI o) T K G F R A L n q.1 q.2 (nI i)) (fun i q => hp_dI F R w o i q.1 q.2) 24 (-1, 25) (Or.inl ⟨rfl, rfl, fun a ha => absurd ha (by omega)⟩) ?_ ?_
  · rintro n ⟨x, y⟩ hI
    refine br_t hp_le24 ?_
    rcases hI with ⟨e, _, hn⟩ | ⟨b, hb, e, d, _, hm⟩
    · dsimp only at e ⊢
      rw [e]
      exact h0 (fun a d => hn a d.1.1 d.1)
    · dsimp only at e ⊢
      rw [e]
      exact h1 b (hp_DM_min (hp_rts_S R w) d (fun a da => hm a da.1 da))
  · rintro n i ⟨x, y⟩ hi hI ih
    have sk : (hp_D F w (hp_rts R w) o i → y ≤ nI (hp_c (hp_lost F w (hp_rts R w) (hp_o i)) 24)) → wY_dominator_31 post (nI w) (nI o) T K G F R A L n x y (nI (i + 1)) := fun z => ih (x, y) (hp_dI_skip hI z)
    refine br_f (hp_n24 hi) (ya_isAlive ok hw (fun z => br_t rfl ?_) (fun z => br_f (by decide) (ya_kept ok hw ?_)))
    · have nd : ¬ hp_D F w (hp_rts R w) o i := fun d => z ((hp_in_nI hi).mpr (hp_dm_alive (hp_rts_S R w) hi d.2.2))
      refine ya_bits (br_c (fun _ => nm_r (nI_1 i) (sk (fun d => absurd d nd))) (fun _ => br_f ?_ (nm_r (nI_1 i) (sk (fun d => absurd d nd)))))
      intro q
      exact hp_0 ((hp_shI 0 (by omega)).mp q)
    · refine ya_bits ?_
      rw [hp_cn_eq _ 24 (by omega)]
      refine br_c (fun e => nm_r (nI_1 i) (sk (fun d => absurd (hp_nI_inj hi ho e) d.2.1))) (fun ne => br_c (fun b => ?_) (fun b => nm_r (nI_1 i) (sk (fun d => absurd ((hp_shI _ (by omega)).mpr d.2.2) b))))
      have d : hp_D F w (hp_rts R w) o i := ⟨hi, fun e => ne (by rw [e]), (hp_shI _ (by omega)).mp b⟩
      exact br_c (fun le => nm_r (nI_1 i) (sk (fun _ => le))) (fun nle => nm_r (nI_1 i) (ih (_, _) (hp_dI_take hI d nle)))
theorem i_vc_dominator {k : Nat} {u : SX} {v : SY} (I : i_Rel k u v) (hk : k + 4 ≤ 2048) (v1 : Int32) (v2 : Int32) : wpX_dominator (fun r => wpY_dominator (fun r' => r' = r ∧ i_Rel (k + 4) u v) v v1 v2) u v1 v2 := by
  have J := I
  obtain ⟨P, K, G, F, R, T, A, L, rfl, rfl, ok, hT⟩ := I
  unfold wpX_dominator wpY_dominator
  dsimp only
  rcases hp_place v1 with ⟨w, hw, rfl⟩ | bad
  · refine xa_plT hw (xa_isAlive ok hw (fun n => br_t rfl (ya_plT hw (ya_isAlive ok hw (fun _ => br_t rfl ⟨rfl, J⟩) (fun h => absurd h n)))) (fun h => br_f (by decide) ?_))
    have h' := h
    obtain ⟨o, ho, rfl, hb⟩ := h'
    refine xa_doms ok hw ho (xa_dom31 ok hw (fun a d => ?_) (fun n => ?_))
    · refine ya_plT hw (ya_isAlive ok hw (fun n => absurd h n) (fun _ => br_f (by decide) (ya_dom31 ok hw ho (fun b d' => ⟨?_, J⟩) (fun n => absurd d (n a)))))
      rw [hp_DM_uniq (hp_rts_S R w) d' d]
    · exact ya_plT hw (ya_isAlive ok hw (fun n => absurd h n) (fun _ => br_f (by decide) (ya_dom31 ok hw ho (fun b d' => absurd d' (n b)) (fun _ => ⟨rfl, J⟩))))
  · exact xa_plF bad (ya_plF bad ⟨rfl, J⟩)
end
end
section
/-! holders, rings, greatestRing -/
section
variable {P T K G F R A L : Nat → Int32} {w o : Nat}
def hp_pI (F : Nat → Int32) (w : Nat) (Z s : Int32) (n : Nat) (t : Int32) : Prop :=
  ∀ a, bt t a = true ↔ a < 24 ∧ bt Z a = true ∧ ∃ m, m < n ∧ m / 4 = a ∧ ∃ p, p < 24 ∧ bt s p = true ∧ F (96 * w + m) = nI p
theorem hp_pI_0 {Z s : Int32} : hp_pI F w Z s 0 0 := fun a =>
  ⟨fun h => absurd h hp_0, fun ⟨_, _, m, hm, _⟩ => absurd hm (by omega)⟩
theorem hp_pI_skip {Z s t : Int32} {n : Nat} (h : hp_pI F w Z s n t) (hs : bt Z (n / 4) = true → ∀ p, p < 24 → bt s p = true → ¬ F (96 * w + n) = nI p) : hp_pI F w Z s (n + 1) t := fun a => by
  rw [h a]
  constructor
  · rintro ⟨h1, h2, m, h3, h4, p, h5, h6, h7⟩
    exact ⟨h1, h2, m, by omega, h4, p, h5, h6, h7⟩
  · rintro ⟨h1, h2, m, h3, h4, p, h5, h6, h7⟩
    by_cases z : m = n
    · subst z
      exact absurd h7 (hs (by rw [h4]; exact h2) p h5 h6)
    · exact ⟨h1, h2, m, by omega, h4, p, h5, h6, h7⟩
theorem hp_pI_add {Z s t : Int32} {n q : Nat} (h : hp_pI F w Z s n t) (hn : n / 4 < 24) (hz : bt Z (n / 4) = true) (hq : q < 24) (hs : bt s q = true) (hf : F (96 * w + n) = nI q) : hp_pI F w Z s (n + 1) (t ||| hp_o (n / 4)) := fun a => by
  rw [hp_or_one (by omega), h a]
  constructor
  · rintro (⟨h1, h2, m, h3, h4, p, h5, h6, h7⟩ | e)
    · exact ⟨h1, h2, m, by omega, h4, p, h5, h6, h7⟩
    · subst e
      exact ⟨hn, hz, n, by omega, rfl, q, hq, hs, hf⟩
  · rintro ⟨h1, h2, m, h3, h4, p, h5, h6, h7⟩
    by_cases z : m = n
    · subst z
      exact Or.inr h4.symm
    · exact Or.inl ⟨h1, h2, m, by omega, h4, p, h5, h6, h7⟩
theorem hp_pI_96 {Z s t : Int32} (h : hp_pI F w Z s 96 t) : t = hp_pre F w Z s := hp_ext fun a => by
  rw [h a, hp_pre_iff]
  constructor
  · rintro ⟨h1, h2, m, h3, h4, p, h5, h6, h7⟩
    exact ⟨h1, h2, p, h5, h6, m, h3, h4, h7⟩
  · rintro ⟨h1, h2, p, h5, h6, m, h3, h4, h7⟩
    exact ⟨h1, h2, m, h3, h4, p, h5, h6, h7⟩
theorem xa_pre15 {post : Int32 → Prop} (ok : hp_ok P F R) (hw : w < 3) {s : Int32} (ho : o < 24) {J : Int32 → Int32 → Prop} (hJ : ∀ t, hp_pI F w (P w) s (4 * (o + 1)) t → J t (nI (o + 1))) {t : Int32} (h : hp_pI F w (P w) s (4 * o) t) : ∃ n, wX_referringTo_15 post J (nI w) s (nI o) P K G F R n t 0 := by
  refine loop_0 (fun n i t => wX_referringTo_15 post J (nI w) s (nI o) P K G F R n t (nI i)) (fun i t => hp_pI F w (P w) s (4 * o + i) t) 4 t h ?_ ?_
  · intro n t hI
    exact br_t hp_le4 (nm_r (nI_1 o) (hJ t hI))
  · intro n i t hi hI ih
    have m4 : (4 * o + i) / 4 = o := by omega
    refine br_f (hp_n4 hi) ⟨pk_in (96 * w + (4 * o + i)) 288 (by omega) (hp_ixf w o i), nm_r (congrArg F (pk_cl (96 * w + (4 * o + i)) (hp_ixf w o i))) (xa_ifG (fun n => nm_r (nI_1 i) (ih _ (hp_pI_skip hI (fun _ p hp hs e => n ⟨p, hp, e, hs⟩)))) (fun hin => ⟨vp_in_nI hw (by decide), ?_⟩))⟩
    obtain ⟨p, hp, e, hs⟩ := hin
    rw [nI_clamp (by omega : w < 2 ^ 31)]
    refine xa_if ho (fun b => nm_r (nI_1 i) (ih _ (hp_pI_skip hI (fun z => absurd (m4 ▸ z) b)))) (fun b => nm_e (nm_r (nI_1 i) (ih _ ?_)))
    have := hp_pI_add hI (by omega) (by rw [m4]; exact b) hp hs e
    rw [m4] at this
    exact this
theorem xa_pre {post : Int32 → Prop} (ok : hp_ok P F R) (hw : w < 3) {s : Int32} (h : post (hp_pre F w (P w) s)) : wpX_referringTo post (P, K, G, F, R) (nI w) s := by
  refine loop_0 (fun n i t => wX_referringTo_5 post (nI w) s P K G F R n t (nI i)) (fun i t => hp_pI F w (P w) s (4 * i) t) 24 0 hp_pI_0 ?_ ?_
  · intro n t hI
    rw [← hp_pI_96 hI] at h
    exact br_t hp_le24 h
  · intro n i t hi hI ih
    exact br_f (hp_n24 hi) (xa_pre15 ok hw hi (fun t ht => ih t ht) hI)
theorem ya_holds {post : Int32 → Prop} (hw : w < 3) {a : Nat} (ha : a < 24) (h0 : ¬ hp_E F w a o → post 0) (h1 : hp_E F w a o → post 1) : wpY_holds post (T, K, G, F, R, A, L) (nI w) (nI a) (nI o) := by
  refine loop_0 (fun n i (_ : Unit) => wY_holds_3 post (nI w) (nI a) (nI o) T K G F R A L n (nI i)) (fun i _ => ∀ f, f < i → ¬ F (96 * w + (4 * a + f)) = nI o) 4 () (fun f hf => absurd hf (by omega)) ?_ ?_
  · intro n _ hI
    refine br_t hp_le4 (h0 ?_)
    rintro ⟨m, hm, e, hf⟩
    refine hI (m - 4 * a) (by omega) ?_
    rw [show 4 * a + (m - 4 * a) = m by omega]
    exact hf
  · intro n i _ hi hI ih
    refine br_f (hp_n4 hi) ⟨pk_in (96 * w + (4 * a + i)) 288 (by omega) (hp_ixG w a i), ?_⟩
    rw [pk_cl (96 * w + (4 * a + i)) (hp_ixG w a i)]
    refine br_c (fun e => h1 ⟨4 * a + i, by omega, by omega, e⟩) (fun ne => nm_r (nI_1 i) (ih () (fun f hf => ?_)))
    by_cases z : f = i
    · rw [z]; exact ne
    · exact hI f (by omega)
theorem i_vc_holders {k : Nat} {u : SX} {v : SY} (I : i_Rel k u v) (hk : k + 4 ≤ 2048) (v1 : Int32) (v2 : Int32) : wpX_holders (fun r => wpY_holders (fun r' => r' = r ∧ i_Rel (k + 4) u v) v v1 v2) u v1 v2 := by
  have J := I
  obtain ⟨P, K, G, F, R, T, A, L, rfl, rfl, ok, hT⟩ := I
  unfold wpX_holders wpY_holders
  dsimp only
  rcases hp_place v1 with ⟨w, hw, rfl⟩ | bad
  · refine xa_plT hw (xa_alive ok hw (xa_ifG (fun n => ya_plT hw (ya_isAlive ok hw (fun _ => br_t rfl ⟨rfl, J⟩) (fun h => absurd h n))) (fun h => ?_)))
    have h' := h
    obtain ⟨o, ho, rfl, hb⟩ := h'
    have hY : ∀ post : Int32 → Prop, post (hp_cn ((hp_pre F w (P w) (hp_o o) &&& hp_clo F w (hp_rts R w) 0) &&& (hp_o o ^^^ (-1))) 24) → ∃ n, wY_holders_27 post (nI w) (nI o) T K G F R A L n 0 0 := by
      intro post h
      have bits : ∀ a, a < 24 → (bt ((hp_pre F w (P w) (hp_o o) &&& hp_clo F w (hp_rts R w) 0) &&& (hp_o o ^^^ (-1))) a = true ↔ ¬ a = o ∧ bt (hp_clo F w (hp_rts R w) 0) a = true ∧ hp_E F w a o) := by
        intro a ha
        rw [hp_andn_iff, hp_and_iff, hp_pre_iff, hp_one_iff (by omega)]
        constructor
        · rintro ⟨⟨⟨_, _, p, hp, h2, h3⟩, h4⟩, h5⟩
          rw [hp_one_iff (by omega)] at h2
          exact ⟨h5, h4, h2 ▸ h3⟩
        · rintro ⟨h5, h4, h3⟩
          exact ⟨⟨⟨ha, hp_alive ok hw h4, o, ho, (hp_one_iff (by omega)).mpr rfl, h3⟩, h4⟩, h5⟩
      generalize (hp_pre F w (P w) (hp_o o) &&& hp_clo F w (hp_rts R w) 0) &&& (hp_o o ^^^ (-1)) = S at h bits
      refine loop_0 (fun n i t => wY_holders_27 post (nI w) (nI o) T K G F R A L n t (nI i)) (fun i t => t = hp_cn S i) 24 0 rfl ?_ ?_
      · intro n t e; cases e
        exact br_t hp_le24 h
      · intro n i t hi e ih; cases e
        have no : ¬ bt S i = true → hp_cn S i = hp_cn S (i + 1) := fun z => by rw [hp_cn_s (by omega), if_neg z, Int32.add_zero]
        refine br_f (hp_n24 hi) (br_c (fun e => nm_r (nI_1 i) (ih _ (no (fun z => ((bits i hi).mp z).1 (hp_nI_inj hi ho e))))) (fun ne => ya_isAlive ok hw (fun z => br_t rfl (nm_r (nI_1 i) (ih _ (no (fun y => z ((hp_in_nI hi).mpr ((bits i hi).mp y).2.1)))))) (fun z => br_f (by decide) (ya_holds hw hi (fun q => br_t rfl (nm_r (nI_1 i) (ih _ (no (fun y => q ((bits i hi).mp y).2.2))))) (fun q => br_f (by decide) (nm_r (e' := hp_cn S (i + 1)) ?_ (nm_r (nI_1 i) (ih _ rfl))))))))
        have : bt S i = true := (bits i hi).mpr ⟨fun e => ne (by rw [e]), (hp_in_nI hi).mp z, q⟩
        rw [hp_cn_s (by omega), if_pos this]
    exact xa_pre ok hw (nm_e (xa_count (ya_plT hw (ya_isAlive ok hw (fun n => absurd h n) (fun _ => br_f (by decide) (hY _ ⟨rfl, J⟩))))))
  · exact xa_plF bad (ya_plF bad ⟨rfl, J⟩)
/-! rings -/
theorem xa_after {post : Int32 → Prop} (ok : hp_ok P F R) (hw : w < 3) (h : post (hp_af F w o)) : wpX_allAfter post (P, K, G, F, R) (nI w) (nI o) :=
  xa_rtb ok hw (xa_spread ok hw h)
theorem xa_ring {post : Int32 → Prop} (ok : hp_ok P F R) (hw : w < 3) (ho : o < 24) (h : post (hp_ring F w o)) : wpX_ringOf post (P, K, G, F, R) (nI w) (nI o) := by
  refine xa_after ok hw ?_
  refine loop_0 (fun n i t => wX_ringOf_13 post (nI w) (nI o) (hp_af F w o) P K G F R n t (nI i)) (fun i t => t = hp_mk (fun p => bt (hp_af F w o) p && bt (hp_af F w p) o) i) 24 0 rfl ?_ ?_
  · intro n t e; cases e
    exact br_t hp_le24 h
  · intro n i t hi e ih; cases e
    refine br_f (hp_n24 hi) (xa_if hi (fun b => nm_r (nI_1 i) (ih _ (hp_mk_f ?_).symm)) (fun b => xa_after ok hw (xa_if ho (fun c => nm_r (nI_1 i) (ih _ (hp_mk_f ?_).symm)) (fun c => nm_r (hp_mk_t (Q := fun p => bt (hp_af F w o) p && bt (hp_af F w p) o) ?_).symm (nm_r (nI_1 i) (ih _ rfl))))))
    · simp [b]
    · simp [c]
    · simp [b, c]
theorem ya_comes17 {post : Int32 → Prop} (ok : hp_ok P F R) (hw : w < 3) (ho : o < 24) {t0 : Int32} {J : Int32 → Int32 → Prop} (hJ : ∀ t, hp_lv F w (fun a => a = o) 0 (hp_af F w o) t0 96 t → J t t0) (h0 : ∀ i, bt t0 i = true → bt (hp_af F w o) i = true) : ∃ n, wY_comesTo_17 post J (nI w) (nI o) t0 T K G F R A L n t0 0 := by
  have hC : ∀ a p, (a = o ∨ bt (hp_af F w o) a = true) → hp_E F w a p → p < 24 → ¬ bt 0 p = true → bt (hp_af F w o) p = true := fun a p h he hp _ => h.elim (fun e => hp_af_one ho hp (e ▸ he)) (fun h => hp_af_step h hp he)
  refine loop_0 (fun n i t => wY_comesTo_17 post J (nI w) (nI o) t0 T K G F R A L n t (nI i)) (fun i t => hp_lv F w (fun a => a = o) 0 (hp_af F w o) t0 i t) 96 t0 (hp_lv_0 h0) ?_ ?_
  · intro n t hI
    exact br_t hp_le96 (hJ t hI)
  · intro n i t hi hI ih
    have go : (i / 4 = o ∨ bt t (i / 4) = true) → wY_comesTo_44 post J (wY_comesTo_17 post J (nI w) (nI o) t0 T K G F R A L n) (nI w) (nI o) t t0 (nI i) T K G F R A L := by
      intro hb
      refine ⟨pk_in (96 * w + i) 288 (by omega) (hp_ixF w i), ?_⟩
      rw [pk_cl (96 * w + i) (hp_ixF w i)]
      rcases ok.2.1 (96 * w + i) (by omega) with z | ⟨p, hp, e⟩
      · rw [z]
        exact br_t hp_m1neg (nm_r (nI_1 i) (ih _ (hp_lv_skip hI (fun _ => z))))
      · rw [e]
        refine br_f (nI_pos (by omega)) (nm_e (nm_r (nI_1 i) (ih _ (hp_lv_add hC hI hi hp hb e (fun k => ?_)))))
        rw [hp_or_one (by omega)]
        exact ⟨fun h => h.imp id (fun e => ⟨e, hp_0⟩), fun h => h.imp id (fun e => e.1)⟩
    refine br_f (hp_n96 hi) ⟨hp_4ne, ?_⟩
    rw [hp_div4 hi]
    refine br_c (fun e => go (Or.inl (hp_nI_inj (by omega) ho e))) (fun ne => ⟨hp_4ne, br_c (fun b => go (Or.inr ((hp_shI t (by omega)).mp b))) (fun b => br_t hp_m1neg (nm_r (nI_1 i) (ih _ (hp_lv_skip hI (fun z => ?_)))))⟩)
    rcases z with z | z
    · exact absurd (by rw [z]) ne
    · exact absurd ((hp_shI t (by omega)).mpr z) b
theorem ya_comes {post : Int32 → Prop} (ok : hp_ok P F R) (hw : w < 3) (ho : o < 24) (h : post (hp_af F w o)) : wpY_comesTo post (T, K, G, F, R, A, L) (nI w) (nI o) := by
  refine loop_m (σ := Int32 × Int32) (fun n q => wY_comesTo_5 post (nI w) (nI o) T K G F R A L n q.1 q.2) (fun q => (∀ i, bt q.1 i = true → bt (hp_af F w o) i = true) ∧ (q.2 = q.1 → ∀ a p, (a = o ∨ bt q.1 a = true) → hp_E F w a p → p < 24 → bt q.1 p = true)) (fun q => if q.2 = q.1 then 0 else 25 - hp_c q.1 24) ?_ (0, -1) ⟨fun i h1 => absurd h1 hp_0, fun e => absurd e (hp_S_m1 hp_S_0)⟩
  rintro n ⟨t, t0⟩ ⟨h2, h3⟩ ih
  refine br_c (fun e => ?_) (fun ne => ya_comes17 ok hw ho (fun t' hl => ih (t', t) ⟨hl.2.1, fun e a p ha he hp => ?_⟩ ?_) h2)
  · have : t = hp_af F w o := by
      refine hp_clo_uniq (fun i h1 _ => ?_) (fun a p ha he hp _ => h3 e a p (Or.inr ha) he hp) h2
      obtain ⟨h4, a, h5, h6⟩ := hp_suc_iff.mp h1
      exact h3 e a i (Or.inl ((hp_one_iff (by omega)).mp h5)) h6 h4
    rw [← this] at h
    exact h
  · have e' : t = t' := e
    refine hp_lv_96 hl (ha.imp id (fun z => ?_)) he hp hp_0
    rw [e']; exact z
  · show (if t = t' then 0 else 25 - hp_c t' 24) < (if t0 = t then 0 else 25 - hp_c t 24)
    have c1 := hp_c_le t 24
    have c2 := hp_c_le t' 24
    rw [if_neg ne]
    by_cases z : t = t'
    · rw [if_pos z]; omega
    · rw [if_neg z]
      have : hp_c t 24 < hp_c t' 24 := hp_grow (fun i hi => hp_af_S F w o i (hl.2.1 i hi)) hl.1 z
      omega
theorem ya_ring {post : Int32 → Prop} (ok : hp_ok P F R) (hw : w < 3) (ho : o < 24) (h : post (hp_ring F w o)) : wpY_ringOf post (T, K, G, F, R, A, L) (nI w) (nI o) := by
  refine ya_comes ok hw ho (br_c (fun z => ?_) (fun z => ?_))
  · rw [hp_ring_none ho (by rw [(hp_sh0 _ (by omega)).mp z]; decide)] at h
    exact h
  · refine loop_0 (fun n i t => wY_ringOf_24 post (nI w) (nI o) (hp_af F w o) T K G F R A L n t (nI i)) (fun i t => t = hp_mk (fun p => bt (hp_af F w o) p && bt (hp_af F w p) o) i) 24 0 rfl ?_ ?_
    · intro n t e; cases e
      exact br_t hp_le24 h
    · intro n i t hi e ih; cases e
      refine br_f (hp_n24 hi) (br_c (fun b => ya_comes ok hw hi (br_c (fun c => ?_) (fun c => ?_))) (fun b => ?_))
      · exact br_f (by decide) (nm_r (hp_mk_t (Q := fun p => bt (hp_af F w o) p && bt (hp_af F w p) o) (by rw [(hp_shI _ (by omega)).mp b, (hp_shI _ (by omega)).mp c]; rfl)).symm (nm_r (nI_1 i) (ih _ rfl)))
      · refine br_t rfl (nm_r (nI_1 i) (ih _ (hp_mk_f (fun y => c ?_)).symm))
        rw [Bool.and_eq_true] at y
        exact (hp_shI _ (by omega)).mpr y.2
      · refine br_t rfl (nm_r (nI_1 i) (ih _ (hp_mk_f (fun y => b ?_)).symm))
        rw [Bool.and_eq_true] at y
        exact (hp_shI _ (by omega)).mpr y.1
end
end
section
/-! rings and greatestRing: X counts each ring at its least object, the reference marks what is done -/
section
variable {P T K G F R A L : Nat → Int32} {w o : Nat}
noncomputable def hp_rg (F R : Nat → Int32) (w : Nat) : Nat → Int32
  | 0 => 0
  | n + 1 => if bt (hp_clo F w (hp_rts R w) 0) n = true ∧ hp_ls (hp_ring F w n) = nI n then hp_rg F R w n + 1 else hp_rg F R w n
theorem hp_rg_t {n : Nat} (h : bt (hp_clo F w (hp_rts R w) 0) n = true ∧ hp_ls (hp_ring F w n) = nI n) : hp_rg F R w (n + 1) = hp_rg F R w n + 1 := if_pos h
theorem hp_rg_f {n : Nat} (h : ¬ (bt (hp_clo F w (hp_rts R w) 0) n = true ∧ hp_ls (hp_ring F w n) = nI n)) : hp_rg F R w (n + 1) = hp_rg F R w n := if_neg h
noncomputable def hp_gr (F R : Nat → Int32) (w : Nat) : Nat → Int32
  | 0 => 0
  | n + 1 => if bt (hp_clo F w (hp_rts R w) 0) n = true ∧ ¬ hp_cn (hp_ring F w n) 24 ≤ hp_gr F R w n then hp_cn (hp_ring F w n) 24 else hp_gr F R w n
theorem hp_gr_t {n : Nat} (h : bt (hp_clo F w (hp_rts R w) 0) n = true ∧ ¬ hp_cn (hp_ring F w n) 24 ≤ hp_gr F R w n) : hp_gr F R w (n + 1) = hp_cn (hp_ring F w n) 24 := if_pos h
theorem hp_gr_f {n : Nat} (h : ¬ (bt (hp_clo F w (hp_rts R w) 0) n = true ∧ ¬ hp_cn (hp_ring F w n) 24 ≤ hp_gr F R w n)) : hp_gr F R w (n + 1) = hp_gr F R w n := if_neg h
theorem hp_gr_le {a : Nat} (al : bt (hp_clo F w (hp_rts R w) 0) a = true) : ∀ n, a < n → hp_cn (hp_ring F w a) 24 ≤ hp_gr F R w n
  | 0 => fun h => absurd h (by omega)
  | n + 1 => fun h => by
    by_cases c : bt (hp_clo F w (hp_rts R w) 0) n = true ∧ ¬ hp_cn (hp_ring F w n) 24 ≤ hp_gr F R w n
    · rw [hp_gr_t c]
      by_cases z : a = n
      · rw [z, Int32.le_iff_toInt_le]; exact Int.le_refl _
      · have ih := hp_gr_le al n (by omega)
        have := c.2
        rw [Int32.le_iff_toInt_le] at *
        omega
    · rw [hp_gr_f c]
      by_cases z : a = n
      · subst z
        exact Classical.byContradiction fun y => c ⟨al, y⟩
      · exact hp_gr_le al n (by omega)
theorem xa_rings {post : Int32 → Prop} (ok : hp_ok P F R) (hw : w < 3) (h : post (hp_rg F R w 24)) : ∃ n, wX_rings_20 post (nI w) (hp_clo F w (hp_rts R w) 0) P K G F R n 0 0 := by
  refine loop_0 (fun n i t => wX_rings_20 post (nI w) (hp_clo F w (hp_rts R w) 0) P K G F R n t (nI i)) (fun i t => t = hp_rg F R w i) 24 0 rfl ?_ ?_
  · intro n t e; cases e
    exact br_t hp_le24 h
  · intro n i t hi e ih; cases e
    exact br_f (hp_n24 hi) (xa_if hi (fun b => nm_r (nI_1 i) (ih _ (hp_rg_f (fun z => b z.1)).symm)) (fun b => xa_ring ok hw hi (xa_least (br_c (fun e => nm_r (hp_rg_t ⟨b, e⟩).symm (nm_r (nI_1 i) (ih _ rfl))) (fun e => nm_r (nI_1 i) (ih _ (hp_rg_f (fun z => e z.2)).symm))))))
theorem xa_great {post : Int32 → Prop} (ok : hp_ok P F R) (hw : w < 3) (h : post (hp_gr F R w 24)) : ∃ n, wX_greatestRing_20 post (nI w) (hp_clo F w (hp_rts R w) 0) P K G F R n 0 0 := by
  refine loop_0 (fun n i t => wX_greatestRing_20 post (nI w) (hp_clo F w (hp_rts R w) 0) P K G F R n t (nI i)) (fun i t => t = hp_gr F R w i) 24 0 rfl ?_ ?_
  · intro n t e; cases e
    exact br_t hp_le24 h
  · intro n i t hi e ih; cases e
    exact br_f (hp_n24 hi) (xa_if hi (fun b => nm_r (nI_1 i) (ih _ (hp_gr_f (fun z => b z.1)).symm)) (fun b => xa_ring ok hw hi (xa_count (br_c (fun e => nm_r (nI_1 i) (ih _ (hp_gr_f (fun z => z.2 e)).symm)) (fun e => nm_r (nI_1 i) (ih _ (hp_gr_t ⟨b, e⟩).symm))))))
/-- what the reference holds after i objects -/
def hp_cI (F R : Nat → Int32) (w i : Nat) (q : Int32 × Int32 × Int32) : Prop :=
  q.1 = hp_rg F R w i ∧ q.2.1 = hp_gr F R w i ∧ ∀ p, bt q.2.2 p = true ↔ ∃ a, a < i ∧ bt (hp_clo F w (hp_rts R w) 0) a = true ∧ bt (hp_ring F w a) p = true
theorem hp_ls_lt {s : Int32} {i a : Nat} (hi : i < 24) (ha : a < i) (h : bt s a = true) : ¬ hp_ls s = nI i := by
  intro e
  rcases hp_ls_cases s with ⟨e2, _⟩ | ⟨b, hb, e2, _, hm⟩
  · rw [e] at e2
    exact hp_nI_ne (by omega) e2
  · rw [e] at e2
    have := hp_nI_inj hi hb e2
    subst this
    exact hm a ha h
theorem hp_cI_dead {i : Nat} {q : Int32 × Int32 × Int32} (h : hp_cI F R w i q) (n : ¬ bt (hp_clo F w (hp_rts R w) 0) i = true) : hp_cI F R w (i + 1) q := by
  obtain ⟨h1, h2, h3⟩ := h
  refine ⟨by rw [h1, hp_rg_f (fun z => n z.1)], by rw [h2, hp_gr_f (fun z => n z.1)], fun p => ?_⟩
  rw [h3 p]
  constructor
  · rintro ⟨a, h4, h5, h6⟩
    exact ⟨a, by omega, h5, h6⟩
  · rintro ⟨a, h4, h5, h6⟩
    have : ¬ a = i := fun z => n (z ▸ h5)
    exact ⟨a, by omega, h5, h6⟩
theorem hp_cI_done {i : Nat} (hi : i < 24) {q : Int32 × Int32 × Int32} (h : hp_cI F R w i q) (d : bt q.2.2 i = true) : hp_cI F R w (i + 1) q := by
  obtain ⟨h1, h2, h3⟩ := h
  obtain ⟨a, h4, h5, h6⟩ := (h3 i).mp d
  have eq : hp_ring F w i = hp_ring F w a := hp_ring_eq (by omega) h6
  have ai : bt (hp_ring F w i) a = true := hp_ring_sym (by omega) h6
  refine ⟨by rw [h1, hp_rg_f (fun z => hp_ls_lt hi h4 ai z.2)], ?_, fun p => ?_⟩
  · rw [h2, hp_gr_f (fun z => z.2 ?_)]
    rw [eq]
    exact hp_gr_le h5 i h4
  · rw [h3 p]
    constructor
    · rintro ⟨b, h7, h8, h9⟩
      exact ⟨b, by omega, h8, h9⟩
    · rintro ⟨b, h7, h8, h9⟩
      by_cases z : b = i
      · subst z
        rw [eq] at h9
        exact ⟨a, h4, h5, h9⟩
      · exact ⟨b, by omega, h8, h9⟩
theorem hp_cI_next {i : Nat} (hi : i < 24) {q : Int32 × Int32 × Int32} (h : hp_cI F R w i q) (al : bt (hp_clo F w (hp_rts R w) 0) i = true) (d : ¬ bt q.2.2 i = true) :
    (hp_cn (hp_ring F w i) 24 ≤ 0 → hp_rg F R w (i + 1) = q.1) ∧ (¬ hp_cn (hp_ring F w i) 24 ≤ 0 → hp_rg F R w (i + 1) = q.1 + 1) ∧ (hp_cn (hp_ring F w i) 24 ≤ q.2.1 → hp_gr F R w (i + 1) = q.2.1) ∧ (¬ hp_cn (hp_ring F w i) 24 ≤ q.2.1 → hp_gr F R w (i + 1) = hp_cn (hp_ring F w i) 24) ∧ ∀ p, bt (q.2.2 ||| hp_ring F w i) p = true ↔ ∃ a, a < i + 1 ∧ bt (hp_clo F w (hp_rts R w) 0) a = true ∧ bt (hp_ring F w a) p = true := by
  obtain ⟨h1, h2, h3⟩ := h
  have c := hp_c_le (hp_ring F w i) 24
  rw [h1, h2]
  refine ⟨fun z => hp_rg_f (fun y => ?_), fun z => hp_rg_t ⟨al, ?_⟩, fun z => hp_gr_f (fun y => y.2 z), fun z => hp_gr_t ⟨al, z⟩, fun p => ?_⟩
  · rw [hp_cn_eq _ 24 (by omega), ← nI_0, nI_leI (by omega) (by omega)] at z
    have none := hp_c_zero (s := hp_ring F w i) 24 (by omega)
    have := y.2
    rw [hp_ls_none none] at this
    exact hp_nI_ne (by omega) this.symm
  · rw [hp_cn_eq _ 24 (by omega), ← nI_0, nI_leI (by omega) (by omega)] at z
    have : ∃ p, bt (hp_ring F w i) p = true := by
      apply Classical.byContradiction
      intro no
      have e : hp_ring F w i = 0 := hp_ext fun p => ⟨fun y => absurd ⟨p, y⟩ no, fun y => absurd y hp_0⟩
      rw [e] at z
      exact z (by decide)
    obtain ⟨p, hp⟩ := this
    refine hp_ls_of hi (hp_ring_self hi hp) (fun j hj y => d ((h3 i).mpr ⟨j, hj, hp_ring_alive (hp_rts_S R w) al y, hp_ring_sym hi y⟩))
  · rw [hp_or_iff, h3 p]
    constructor
    · rintro (⟨a, h4, h5, h6⟩ | h)
      · exact ⟨a, by omega, h5, h6⟩
      · exact ⟨i, by omega, al, h⟩
    · rintro ⟨a, h4, h5, h6⟩
      by_cases z : a = i
      · subst z; exact Or.inr h6
      · exact Or.inl ⟨a, by omega, h5, h6⟩
theorem ya_count {post : Int32 → Prop} {g : Int32} (ok : hp_ok P F R) (hw : w < 3) (h0 : g = 0 → post (hp_rg F R w 24)) (h1 : ¬ g = 0 → post (hp_gr F R w 24)) : wpY_countRings post (T, K, G, F, R, A, L) (nI w) g := by
  refine loop_0 (σ := Int32 × Int32 × Int32) (fun n i q => wY_countRings_11 post (nI w) g T K G F R A L n q.1 q.2.1 q.2.2 (nI i)) (fun i q => hp_cI F R w i q) 24 (0, 0, 0) ⟨rfl, rfl, fun p => ⟨fun z => absurd z hp_0, fun ⟨a, ha, _⟩ => absurd ha (by omega)⟩⟩ ?_ ?_
  · rintro n ⟨x, y, z⟩ hI
    have e1 : x = hp_rg F R w 24 := hI.1
    have e2 : y = hp_gr F R w 24 := hI.2.1
    subst e1 e2
    exact br_t hp_le24 (br_c h0 h1)
  · rintro n i ⟨x, y, z⟩ hi hI ih
    refine br_f (hp_n24 hi) (br_c (fun d => ya_isAlive ok hw (fun a => br_t rfl (nm_r (nI_1 i) (ih (x, y, z) (hp_cI_dead hI (fun q => a ((hp_in_nI hi).mpr q)))))) (fun a => br_f (by decide) (ya_ring ok hw hi (ya_bits ?_)))) (fun d => nm_r (nI_1 i) (ih (x, y, z) (hp_cI_done hi hI ?_))))
    · have dn : ¬ bt z i = true := by
        have := (hp_sh0 z (by omega : i < 32)).mp d
        rw [this]
        decide
      obtain ⟨n1, n2, n3, n4, n5⟩ := hp_cI_next hi hI ((hp_in_nI hi).mp a) dn
      refine br_c (fun e => br_c (fun f => nm_e (nm_r (nI_1 i) (ih (x, y, z ||| hp_ring F w i) ⟨(n1 e).symm, (n3 f).symm, n5⟩))) (fun f => nm_e (nm_r (nI_1 i) (ih (x, hp_cn (hp_ring F w i) 24, z ||| hp_ring F w i) ⟨(n1 e).symm, (n4 f).symm, n5⟩)))) (fun e => br_c (fun f => nm_e (nm_r (nI_1 i) (ih (x + 1, y, z ||| hp_ring F w i) ⟨(n2 e).symm, (n3 f).symm, n5⟩))) (fun f => nm_e (nm_r (nI_1 i) (ih (x + 1, hp_cn (hp_ring F w i) 24, z ||| hp_ring F w i) ⟨(n2 e).symm, (n4 f).symm, n5⟩))))
    · show bt z i = true
      cases e : bt z i
      · exact absurd ((hp_sh0 z (by omega)).mpr e) d
      · rfl
theorem i_vc_rings {k : Nat} {u : SX} {v : SY} (I : i_Rel k u v) (hk : k + 4 ≤ 2048) (v1 : Int32) : wpX_rings (fun r => wpY_rings (fun r' => r' = r ∧ i_Rel (k + 4) u v) v v1) u v1 := by
  have J := I
  obtain ⟨P, K, G, F, R, T, A, L, rfl, rfl, ok, hT⟩ := I
  unfold wpX_rings wpY_rings
  dsimp only
  rcases hp_place v1 with ⟨w, hw, rfl⟩ | bad
  · exact xa_plT hw (xa_alive ok hw (xa_rings ok hw (ya_plT hw (ya_count ok hw (fun _ => ⟨rfl, J⟩) (fun n => absurd rfl n)))))
  · exact xa_plF bad (ya_plF bad ⟨rfl, J⟩)
theorem i_vc_greatestRing {k : Nat} {u : SX} {v : SY} (I : i_Rel k u v) (hk : k + 4 ≤ 2048) (v1 : Int32) : wpX_greatestRing (fun r => wpY_greatestRing (fun r' => r' = r ∧ i_Rel (k + 4) u v) v v1) u v1 := by
  have J := I
  obtain ⟨P, K, G, F, R, T, A, L, rfl, rfl, ok, hT⟩ := I
  unfold wpX_greatestRing wpY_greatestRing
  dsimp only
  rcases hp_place v1 with ⟨w, hw, rfl⟩ | bad
  · exact xa_plT hw (xa_alive ok hw (xa_great ok hw (ya_plT hw (ya_count ok hw (fun e => absurd e (by decide)) (fun _ => ⟨rfl, J⟩)))))
  · exact xa_plF bad (ya_plF bad ⟨rfl, J⟩)
end
end
section
/-! X's depth and way -/
section
variable {P T K G F R A L : Nat → Int32} {w o : Nat}
theorem hp_it_00 (F : Nat → Int32) (w : Nat) (s : Int32) : hp_it F w s 0 0 = s := hp_ext fun i => by
  show bt (s &&& (0 ^^^ (-1))) i = true ↔ _
  rw [hp_andn_iff]
  exact ⟨fun h => h.1, fun h => ⟨h, hp_0⟩⟩
theorem hp_it_s0 (F : Nat → Int32) (w : Nat) (s : Int32) (k : Nat) : hp_it F w s 0 (k + 1) = hp_it F w s 0 k ||| hp_suc F w (hp_it F w s 0 k) := hp_ext fun i => by
  rw [hp_it_s, hp_or_iff, hp_or_iff, hp_andn_iff]
  exact ⟨fun h => h.imp id (fun z => z.1), fun h => h.imp id (fun z => ⟨z, hp_0⟩)⟩
theorem xa_lref {post : Int32 → Prop} (ok : hp_ok P F R) (hw : w < 3) {x : Int32} (h1 : ∀ d o, d ≤ 23 → o < 24 → x = nI o → bt (hp_it F w (hp_rts R w) 0 d) o = true → (∀ j, j < d → ¬ bt (hp_it F w (hp_rts R w) 0 j) o = true) → post (nI (d + 1))) (h0 : ¬ hp_in (hp_clo F w (hp_rts R w) 0) x → post (-3)) : wpX_leastReferences post (P, K, G, F, R) (nI w) x := by
  refine xa_rts ok hw ?_
  refine loop_0 (fun n i t => wX_leastReferences_9 post (nI w) x P K G F R n t (nI (i + 1))) (fun i t => t = hp_it F w (hp_rts R w) 0 i ∧ ∀ j, j < i → ¬ hp_in (hp_it F w (hp_rts R w) 0 j) x) 24 (hp_rts R w) ⟨(hp_it_00 F w _).symm, fun j hj => absurd hj (by omega)⟩ ?_ ?_
  · rintro n t ⟨e, hn⟩
    refine br_t (by decide +kernel : (24 : Int32) < nI 25) (h0 ?_)
    rw [← hp_lev_23 (hp_rts_S R w)]
    exact hn 23 (by omega)
  · rintro n i t hi ⟨e, hn⟩ ih
    subst e
    refine br_f (nI_nlt (a := 24) (b := i + 1) (by omega) (by decide)) (xa_ifG (fun z => xa_rtb ok hw (nm_r (hp_it_s0 F w _ i).symm (nm_r (nI_1 (i + 1)) (ih _ ⟨rfl, fun j hj => ?_⟩)))) (fun z => ?_))
    · by_cases y : j = i
      · rw [y]; exact z
      · exact hn j (by omega)
    · obtain ⟨o, ho, e, hb⟩ := z
      exact h1 i o (by omega) ho e hb (fun j hj y => hn j hj ⟨o, ho, e, y⟩)
theorem xa_coming {post : Int32 → Prop} (ok : hp_ok P F R) (hw : w < 3) {k : Nat} (hk : k ≤ 24) (h : post (hp_ct F w (P w) o k)) : wpX_comingTo post (P, K, G, F, R) (nI w) (nI o) (nI k) := by
  refine nm_e ?_
  refine loop_0 (fun n i t => wX_comingTo_8 post (nI w) (nI k) P K G F R n t (nI i)) (fun i t => t = hp_ct F w (P w) o i) k (hp_o o) rfl ?_ ?_
  · intro n t e; cases e
    exact br_t (nI_le (Nat.le_refl k) (by omega)) h
  · intro n i t hi e ih; cases e
    exact br_f (nI_ge hi (by omega)) (br_f (hp_n24 (by omega)) (xa_pre ok hw (nm_r (nI_1 i) (ih _ rfl))))
noncomputable def hp_nx (F R : Nat → Int32) (w : Nat) (Z : Int32) (o d : Nat) : Nat → Int32
  | 0 => hp_rts R w
  | i + 1 => hp_suc F w ((1 : Int32) <<< (hp_pt F R w Z o d i &&& 31))
noncomputable def hp_at (F R : Nat → Int32) (w : Nat) (Z : Int32) (o d : Nat) : Nat → Int32
  | 0 => -1
  | i + 1 => hp_pt F R w Z o d i
theorem hp_pt_eq (F R : Nat → Int32) (w : Nat) (Z : Int32) (o d : Nat) : ∀ i, hp_pt F R w Z o d i = hp_ls (hp_nx F R w Z o d i &&& hp_ct F w Z o (d - i))
  | 0 => rfl
  | _ + 1 => rfl
theorem xa_way43 {post : Int32 → Prop} (ok : hp_ok P F R) (hw : w < 3) {d i0 : Nat} (hd : d ≤ 23) (hi0 : i0 ≤ d) (h : post (hp_pt F R w (P w) o d i0)) : ∃ n, wX_way_43 post (nI w) (nI o) (nI i0) (nI (d + 1)) P K G F R n (hp_rts R w) (-1) 0 := by
  refine loop_0 (σ := Int32 × Int32) (fun n i q => wX_way_43 post (nI w) (nI o) (nI i0) (nI (d + 1)) P K G F R n q.1 q.2 (nI i)) (fun i q => q = (hp_nx F R w (P w) o d i, hp_at F R w (P w) o d i)) (i0 + 1) (hp_rts R w, -1) rfl ?_ ?_
  · intro n q e; cases e
    exact br_t (nI_lt (by omega) (by omega)) h
  · intro n i q hi e ih; cases e
    have e : (nI (d + 1) - 1) - nI i = nI (d - i) := by rw [nI_pred, pk_sub (by omega)]
    refine br_f (nI_nlt (by omega) (by omega)) (br_f (hp_n24 (by omega)) ?_)
    rw [e]
    refine xa_coming ok hw (by omega) (xa_least ?_)
    show wpX_referredToBy _ _ _ ((1 : Int32) <<< (hp_ls (hp_nx F R w (P w) o d i &&& hp_ct F w (P w) o (d - i)) &&& 31))
    rw [← hp_pt_eq]
    exact xa_rtb ok hw (nm_r (nI_1 i) (ih (_, _) rfl))
end
end
section
/-! the reference's findFar and findWay -/
section
variable {P T K G F R A L : Nat → Int32} {w o : Nat}
theorem hp_upd_self (A : Nat → Int32) (a : Nat) : upd A a (A a) = A := by
  funext j
  by_cases z : j = a
  · rw [z, pk_us]
  · rw [pk_un z]
theorem ya_far33 {post : SY → Prop} (ok : hp_ok P F R) (hT : hp_T P T) (hw : w < 3) (ho : o < 24) (h0 : hp_bf F w (P w) o 0 A) (h : ∀ B, hp_far F w (P w) o B → post (T, K, G, F, R, B, L)) : ∃ n, wY_findFar_33 post (nI w) n 0 T K G F R A L := by
  refine loop_0 (fun n i a => wY_findFar_33 post (nI w) n (nI i) T K G F R a L) (fun i a => hp_bf F w (P w) o i a) 2304 A h0 ?_ ?_
  · intro n a hI
    exact br_t (by decide +kernel : (2304 : Int32) ≤ nI 2304) (h a (hp_bf_end ho hI))
  · intro n i a hi hI ih
    have hm : i % 96 < 96 := Nat.mod_lt _ (by omega)
    have er : nI i - nI i / 96 * 96 = nI (i % 96) := pk_rem (d := 96) (by omega) (by omega) (by decide)
    have ed : (nI i - nI i / 96 * 96) / 4 = nI (i % 96 / 4) := by rw [er, hp_div4 hm]
    have ha : i % 96 / 4 < 24 := by omega
    have va : vp_in (nI (i % 96 / 4)) 24 := vp_in_nI ha (by decide)
    have ca : (nI (i % 96 / 4)).toNatClampNeg = i % 96 / 4 := nI_clamp (by omega)
    have skip : (∀ p, p < 24 → bt (P w) (i % 96 / 4) = true → F (96 * w + i % 96) = nI p → ¬ a p + 1 < a (i % 96 / 4)) → wY_findFar_33 post (nI w) n (nI (i + 1)) T K G F R (upd a (nI (i % 96 / 4)).toNatClampNeg (a (nI (i % 96 / 4)).toNatClampNeg)) L := by
      intro hs
      rw [hp_upd_self]
      exact ih _ (hp_bf_skip hI hs)
    refine br_f (nI_ge (b := 2304) hi (by decide)) ⟨by decide, by decide, nm_r ed ⟨pk_in (24 * w + i % 96 / 4) 72 (by omega) (hp_ixO w _), ?_⟩⟩
    rw [pk_cl (24 * w + i % 96 / 4) (hp_ixO w _), hT w _ hw ha]
    by_cases hb : bt (P w) (i % 96 / 4) = true
    · rw [if_pos hb]
      refine ⟨rfl, br_f (by decide) ⟨by decide, ?_⟩⟩
      rw [er]
      refine ⟨pk_in (96 * w + i % 96) 288 (by omega) (hp_ixF w _), ?_⟩
      rw [pk_cl (96 * w + i % 96) (hp_ixF w _)]
      rcases ok.2.1 (96 * w + i % 96) (by omega) with z | ⟨p, hp, e⟩
      · rw [z]
        refine br_t hp_m1neg ⟨va, va, nm_e (nm_r (nI_1 i) (skip (fun p hp _ e => ?_)))⟩
        rw [z] at e
        exact absurd e.symm (hp_nI_ne (by omega))
      · rw [e]
        have vp : vp_in (nI p) 24 := vp_in_nI hp (by decide)
        have cp : (nI p).toNatClampNeg = p := nI_clamp (by omega)
        refine br_f (nI_pos (by omega)) ⟨vp, va, br_c (fun le => ⟨va, va, nm_e (nm_r (nI_1 i) (skip (fun q hq _ e2 => ?_)))⟩) (fun nle => ⟨vp, va, nm_e (nm_r (nI_1 i) (ih _ ?_))⟩)⟩
        · rw [e] at e2
          rw [← hp_nI_inj hp hq e2]
          rw [ca, cp] at le
          exact Int32.not_lt.mpr le
        · rw [ca, cp] at nle ⊢
          exact hp_bf_relax hI hp hb e (Int32.not_le.mp nle)
    · rw [if_neg hb]
      exact ⟨rfl, br_t rfl (br_t hp_m1neg ⟨va, va, nm_e (nm_r (nI_1 i) (skip (fun p hp z _ => absurd z hb)))⟩)⟩
theorem ya_far {post : SY → Prop} (ok : hp_ok P F R) (hT : hp_T P T) (hw : w < 3) (ho : o < 24) (h : ∀ B, hp_far F w (P w) o B → post (T, K, G, F, R, B, L)) : wpY_findFar post (T, K, G, F, R, A, L) (nI w) (nI o) := by
  refine loop_0 (fun n i a => wY_findFar_2 post (nI w) (nI o) n (nI i) T K G F R a L) (fun i a => ∀ j, j < i → a j = if j = o then nI 0 else nI 100) 24 A (fun j hj => absurd hj (by omega)) ?_ ?_
  · intro n a hI
    exact br_t hp_le24 (ya_far33 ok hT hw ho (hp_bf_0 hI) h)
  · intro n i a hi hI ih
    have vi : vp_in (nI i) 24 := vp_in_nI hi (by decide)
    have ci : (nI i).toNatClampNeg = i := nI_clamp (by omega)
    refine br_f (hp_n24 hi) (br_c (fun e => ⟨vi, nm_e (nm_r (nI_1 i) (ih _ (fun j hj => ?_)))⟩) (fun ne => ⟨vi, nm_e (nm_r (nI_1 i) (ih _ (fun j hj => ?_)))⟩))
    · rw [ci]
      by_cases z : j = i
      · rw [z, pk_us, if_pos (hp_nI_inj hi ho e)]; rfl
      · rw [pk_un z]; exact hI j (by omega)
    · rw [ci]
      by_cases z : j = i
      · rw [z, pk_us, if_neg (fun y => ne (by rw [y]))]; rfl
      · rw [pk_un z]; exact hI j (by omega)
/-! the best root -/
theorem hp_BI_skip {i : Nat} {x : Int32} (h : hp_BI R w A i x) (hs : ∀ p, p < 24 → R (4 * w + i) = nI p → ¬ A p < 100 ∨ ∃ a d d', x = nI a ∧ a < 24 ∧ A a = nI d ∧ d < 100 ∧ A p = nI d' ∧ d' < 100 ∧ (d < d' ∨ (d = d' ∧ a ≤ p))) : hp_BI R w A (i + 1) x := by
  rcases h with ⟨e, h⟩ | ⟨a, d, ha, e, ⟨r, hr, er⟩, ed, hd, hm⟩
  · refine Or.inl ⟨e, fun r p hr hp er => ?_⟩
    by_cases z : r = i
    · subst z
      rcases hs p hp er with y | ⟨a, _, _, ex, ha, _⟩
      · exact y
      · rw [e] at ex
        exact absurd ex.symm (hp_nI_ne (by omega))
    · exact h r p (by omega) hp er
  · refine Or.inr ⟨a, d, ha, e, ⟨r, by omega, er⟩, ed, hd, fun r' p d' hr' hp er' ed' hd' => ?_⟩
    by_cases z : r' = i
    · subst z
      rcases hs p hp er' with y | ⟨a2, d2, d3, ex, ha2, ed2, hd2, ed3, hd3, y⟩
      · refine absurd ?_ y
        rw [ed']
        exact nI_lt (b := 100) hd' (by decide)
      · rw [e] at ex
        have e1 := hp_nI_inj ha ha2 ex
        subst e1
        rw [ed] at ed2
        rw [ed'] at ed3
        have e2 := (nI_eq (by omega) (by omega)).mp ed2
        have e3 := (nI_eq (by omega) (by omega)).mp ed3
        subst e2 e3
        exact y
    · exact hm r' p d' (by omega) hp er' ed' hd'
theorem hp_BI_take {i p dp : Nat} {x : Int32} (h : hp_BI R w A i x) (hp : p < 24) (er : R (4 * w + i) = nI p) (ep : A p = nI dp) (hdp : dp < 100) (hs : x = -1 ∨ ∃ a d, x = nI a ∧ a < 24 ∧ A a = nI d ∧ d < 100 ∧ (dp < d ∨ (dp = d ∧ p ≤ a))) : hp_BI R w A (i + 1) (nI p) := by
  refine Or.inr ⟨p, dp, hp, rfl, ⟨i, by omega, er⟩, ep, hdp, fun r' q d' hr' hq er' ed' hd' => ?_⟩
  by_cases z : r' = i
  · subst z
    rw [er] at er'
    have := hp_nI_inj hp hq er'
    subst this
    rw [ep] at ed'
    have := (nI_eq (by omega) (by omega)).mp ed'
    omega
  · rcases h with ⟨e, h⟩ | ⟨a, d, ha, e, _, ed, hd, hm⟩
    · refine absurd ?_ (h r' q (by omega) hq er')
      rw [ed']
      exact nI_lt (b := 100) hd' (by decide)
    · have g := hm r' q d' (by omega) hq er' ed' hd'
      rcases hs with y | ⟨a2, d2, ex, ha2, ed2, hd2, y⟩
      · rw [e] at y
        exact absurd y (hp_nI_ne (by omega))
      · rw [e] at ex
        have e1 := hp_nI_inj ha ha2 ex
        subst e1
        rw [ed] at ed2
        have e2 := (nI_eq (by omega) (by omega)).mp ed2
        subst e2
        omega
/-! the least nearer field -/
theorem hp_mn_iff {Q Q' : Nat → Prop} {x : Int32} (h : hp_mn Q x) (e : ∀ p, p < 24 → (Q p ↔ Q' p)) : hp_mn Q' x := by
  rcases h with ⟨h1, h2⟩ | ⟨a, ha, h1, h2, h3⟩
  · exact Or.inl ⟨h1, fun p hp z => h2 p hp ((e p hp).mpr z)⟩
  · exact Or.inr ⟨a, ha, h1, (e a ha).mp h2, fun p hp z => h3 p hp ((e p hp).mpr z)⟩
theorem ya_way143 {post : Int32 → SY → Prop} {J : Int32 → Int32 → (Nat → Int32) → (Nat → Int32) → (Nat → Int32) → (Nat → Int32) → (Nat → Int32) → (Nat → Int32) → (Nat → Int32) → Prop} (ok : hp_ok P F R) (hw : w < 3) {a : Nat} (ha : a < 24) {x4 : Int32} (h : ∀ x, hp_mn (fun p => hp_E F w a p ∧ A p + 1 = A a) x → J x4 x T K G F R A L) : ∃ n, wY_findWay_143 post J (nI w) x4 (nI a) T K G F R A L n (-1) 0 := by
  refine loop_0 (fun n i x => wY_findWay_143 post J (nI w) x4 (nI a) T K G F R A L n x (nI i)) (fun i x => hp_mn (fun p => (∃ f, f < i ∧ F (96 * w + (4 * a + f)) = nI p) ∧ A p + 1 = A a) x) 4 (-1) (Or.inl ⟨rfl, fun p _ ⟨⟨f, hf, _⟩, _⟩ => absurd hf (by omega)⟩) ?_ ?_
  · intro n x hI
    refine br_t hp_le4 (h x (hp_mn_iff hI (fun p hp => ?_)))
    constructor
    · rintro ⟨⟨f, hf, e⟩, q⟩
      exact ⟨⟨4 * a + f, by omega, by omega, e⟩, q⟩
    · rintro ⟨⟨m, hm, e1, e2⟩, q⟩
      exact ⟨⟨m - 4 * a, by omega, by rw [show 4 * a + (m - 4 * a) = m by omega]; exact e2⟩, q⟩
  · intro n i x hi hI ih
    have va : vp_in (nI a) 24 := vp_in_nI ha (by decide)
    have ca : (nI a).toNatClampNeg = a := nI_clamp (by omega)
    have skip : (∀ p, p < 24 → F (96 * w + (4 * a + i)) = nI p → ¬ A p + 1 = A a) → wY_findWay_143 post J (nI w) x4 (nI a) T K G F R A L n x (nI (i + 1)) := by
      intro hs
      refine ih x (hp_mn_iff hI (fun p hp => ?_))
      constructor
      · rintro ⟨⟨f, hf, e⟩, q⟩
        exact ⟨⟨f, by omega, e⟩, q⟩
      · rintro ⟨⟨f, hf, e⟩, q⟩
        by_cases z : f = i
        · subst z
          exact absurd q (hs p hp e)
        · exact ⟨⟨f, by omega, e⟩, q⟩
    refine br_f (hp_n4 hi) ⟨pk_in (96 * w + (4 * a + i)) 288 (by omega) (hp_ixG w a i), nm_r (congrArg F (pk_cl (96 * w + (4 * a + i)) (hp_ixG w a i))) ?_⟩
    rcases ok.2.1 (96 * w + (4 * a + i)) (by omega) with z | ⟨p, hp, e⟩
    · rw [z]
      refine br_t hp_m1neg (br_t rfl (nm_r (nI_1 i) (skip (fun p hp e => ?_))))
      rw [z] at e
      exact absurd e.symm (hp_nI_ne (by omega))
    · rw [e]
      have vp : vp_in (nI p) 24 := vp_in_nI hp (by decide)
      have cp : (nI p).toNatClampNeg = p := nI_clamp (by omega)
      refine br_f (nI_pos (by omega)) ⟨vp, va, ?_⟩
      rw [ca, cp]
      refine br_c (fun q => br_f (by decide) ?_) (fun q => br_t rfl (nm_r (nI_1 i) (skip (fun p' hp' e' => ?_))))
      · have now : ∀ p', p' < 24 → ((∃ f, f < i + 1 ∧ F (96 * w + (4 * a + f)) = nI p') ∧ A p' + 1 = A a) → p' = p ∨ ((∃ f, f < i ∧ F (96 * w + (4 * a + f)) = nI p') ∧ A p' + 1 = A a) := by
          rintro p' hp' ⟨⟨f, hf, e'⟩, q'⟩
          by_cases z : f = i
          · subst z
            rw [e] at e'
            exact Or.inl (hp_nI_inj hp hp' e').symm
          · exact Or.inr ⟨⟨f, by omega, e'⟩, q'⟩
        have me : (∃ f, f < i + 1 ∧ F (96 * w + (4 * a + f)) = nI p) ∧ A p + 1 = A a := ⟨⟨i, by omega, e⟩, q⟩
        have old : ∀ p', ((∃ f, f < i ∧ F (96 * w + (4 * a + f)) = nI p') ∧ A p' + 1 = A a) → (∃ f, f < i + 1 ∧ F (96 * w + (4 * a + f)) = nI p') ∧ A p' + 1 = A a := by
          rintro p' ⟨⟨f, hf, e'⟩, q'⟩
          exact ⟨⟨f, by omega, e'⟩, q'⟩
        rcases hI with ⟨ex, hn⟩ | ⟨b, hb, ex, hq, hm⟩
        · rw [ex]
          refine br_t hp_m1neg (nm_r (nI_1 i) (ih (nI p) (Or.inr ⟨p, hp, rfl, me, fun p' hp' z => ?_⟩)))
          rcases now p' hp' z with y | y
          · omega
          · exact absurd y (hn p' hp')
        · rw [ex]
          refine br_f (nI_pos (by omega)) (pk_le b p (fun le => nm_r (nI_1 i) (ih (nI b) (Or.inr ⟨b, hb, rfl, old b hq, fun p' hp' z => ?_⟩))) (fun lt => nm_r (nI_1 i) (ih (nI p) (Or.inr ⟨p, hp, rfl, me, fun p' hp' z => ?_⟩))))
          · rcases now p' hp' z with y | y
            · omega
            · exact hm p' hp' y
          · rcases now p' hp' z with y | y
            · omega
            · have := hm p' hp' y
              omega
      · rw [e] at e'
        rw [← hp_nI_inj hp hp' e']
        exact q
/-- the walk itself: r references are left -/
theorem ya_way120 {post : Int32 → SY → Prop} (ok : hp_ok P F R) (hw : w < 3) (ho : o < 24) {d : Nat} (hd : d ≤ 23) (fr : hp_far F w (P w) o A) (h : ∀ M, (∀ j, j ≤ d → M j = hp_pt F R w (P w) o d j) → post (nI (d + 1)) (T, K, G, F, R, A, M)) : ∀ r n j a (M : Nat → Int32), r + 2 ≤ n → j + r = d → a < 24 → bt (P w) a = true → A a = nI r → hp_pt F R w (P w) o d j = nI a → (∀ i, i < j → M i = hp_pt F R w (P w) o d i) → wY_findWay_120 post (nI w) n (nI j) (nI a) T K G F R A M := by
  intro r
  induction r with
  | zero =>
    intro n j a M hn hj ha hz ea ep hM
    obtain ⟨n, rfl⟩ : ∃ m, n = m + 2 := ⟨n - 2, by omega⟩
    refine br_f (nI_pos (by omega)) ⟨vp_in_nI (by omega) (by decide), nm_r (congrArg (fun i => upd M i (nI a)) (nI_clamp (by omega : j < 2 ^ 31))) (nm_r (nI_1 j) (ya_way143 ok hw ha (fun x hx => ?_)))⟩
    rw [hp_path_0 fr ea hx]
    refine br_t hp_m1neg ?_
    obtain rfl : j = d := by omega
    refine h _ (fun i hi => ?_)
    by_cases z : i = j
    · rw [z, pk_us, ep]
    · rw [pk_un z]; exact hM i (by omega)
  | succ r ih =>
    intro n j a M hn hj ha hz ea ep hM
    obtain ⟨n, rfl⟩ : ∃ m, n = m + 1 := ⟨n - 1, by omega⟩
    refine br_f (nI_pos (by omega)) ⟨vp_in_nI (by omega) (by decide), nm_r (congrArg (fun i => upd M i (nI a)) (nI_clamp (by omega : j < 2 ^ 31))) (nm_r (nI_1 j) (ya_way143 ok hw ha (fun x hx => ?_)))⟩
    obtain ⟨e1, p, hp, e2, hE, e3⟩ := hp_path_s fr (ok.1 w hw) ho ha hz (by omega) ea hx
    rw [e2]
    refine ih n (j + 1) p _ (by omega) (by omega) hp (hp_step_P ok hw hp hz hE) e3 ?_ (fun i hi => ?_)
    · show hp_ls (hp_suc F w ((1 : Int32) <<< (hp_pt F R w (P w) o d j &&& 31)) &&& hp_ct F w (P w) o (d - (j + 1))) = nI p
      rw [ep, ← e2, e1, show d - (j + 1) = r by omega]
    · by_cases z : i = j
      · rw [z, pk_us, ep]
      · rw [pk_un z]; exact hM i (by omega)
theorem ya_way11 {post : Int32 → SY → Prop} (ok : hp_ok P F R) (hw : w < 3) (ho : o < 24) {d : Nat} (hd : d ≤ 23) (h1 : ∃ p, bt (hp_rts R w) p = true ∧ hp_wk F w (P w) d p o) (h2 : ∀ p j, bt (hp_rts R w) p = true → hp_wk F w (P w) j p o → d ≤ j) (fr : hp_far F w (P w) o A) (h : ∀ M, (∀ j, j ≤ d → M j = hp_pt F R w (P w) o d j) → post (nI (d + 1)) (T, K, G, F, R, A, M)) : ∃ n, wY_findWay_11 post (nI w) T K G F R A L n (-1) 0 := by
  refine loop_0 (fun n i x => wY_findWay_11 post (nI w) T K G F R A L n x (nI i)) (fun i x => hp_BI R w A i x) 4 (-1) (Or.inl ⟨rfl, fun r p hr => absurd hr (by omega)⟩) ?_ ?_
  · intro n x hI
    obtain ⟨a, ha, ex, ra, ea, ep⟩ := hp_BI_end fr (ok.1 w hw) ho hd h1 h2 hI
    rw [ex]
    exact br_t hp_le4 ⟨d + 2, ya_way120 ok hw ho hd fr h d (d + 2) 0 a L (by omega) (by omega) ha (hp_root_P ok hw ra) ea ep (fun i hi => absurd hi (by omega))⟩
  · intro n i x hi hI ih
    refine br_f (hp_n4 hi) ⟨pk_in (4 * w + i) 12 (by omega) (hp_ixR w i), nm_r (congrArg R (pk_cl (4 * w + i) (hp_ixR w i))) ?_⟩
    rcases ok.2.2.1 w i hw hi with z | ⟨p, hp, e, _⟩
    · rw [z]
      refine br_t hp_m1neg (br_t rfl (nm_r (nI_1 i) (ih x (hp_BI_skip hI (fun p hp e => ?_)))))
      rw [z] at e
      exact absurd e.symm (hp_nI_ne (by omega))
    · rw [e]
      have vp : vp_in (nI p) 24 := vp_in_nI hp (by decide)
      have cp : (nI p).toNatClampNeg = p := nI_clamp (by omega)
      refine br_f (nI_pos (by omega)) ⟨vp, ?_⟩
      rw [cp]
      have only : ∀ q, q < 24 → R (4 * w + i) = nI q → q = p := fun q hq eq => (hp_nI_inj hp hq (e.symm.trans eq)).symm
      obtain ⟨dp, hdp, edp⟩ := hp_far_n fr hp
      refine br_c (fun big => br_t rfl (nm_r (nI_1 i) (ih x (hp_BI_skip hI (fun q hq eq => Or.inl ?_))))) (fun small => ?_)
      · rw [only q hq eq]
        exact Int32.not_lt.mpr big
      · have dlt : dp < 100 := by
          rw [edp] at small
          rcases Nat.lt_or_ge dp 100 with y | y
          · exact y
          · exact absurd (nI_le (a := 100) y (by omega)) small
        have take : (x = -1 ∨ ∃ a d, x = nI a ∧ a < 24 ∧ A a = nI d ∧ d < 100 ∧ (dp < d ∨ (dp = d ∧ p ≤ a))) → wY_findWay_89 post (wY_findWay_11 post (nI w) T K G F R A L n) (nI w) x (nI i) (nI p) T K G F R A L := fun hs => br_f (by decide) (nm_r (nI_1 i) (ih (nI p) (hp_BI_take hI hp e edp dlt hs)))
        have hI' := hI
        rcases hI' with ⟨ex, _⟩ | ⟨a, da, ha, ex, _, ed, hda, _⟩
        · have t := take (Or.inl ex)
          rw [ex] at t ⊢
          exact br_t hp_m1neg t
        · have va : vp_in (nI a) 24 := vp_in_nI ha (by decide)
          have ca : (nI a).toNatClampNeg = a := nI_clamp (by omega)
          have skip : (da < dp ∨ (da = dp ∧ a ≤ p)) → wY_findWay_93 post (wY_findWay_11 post (nI w) T K G F R A L n) (nI w) x (nI i) (nI p) T K G F R A L := fun hs => br_t rfl (nm_r (nI_1 i) (ih x (hp_BI_skip hI (fun q hq eq => Or.inr ⟨a, da, dp, ex, ha, ed, hda, by rw [only q hq eq]; exact edp, dlt, by rw [only q hq eq]; exact hs⟩))))
          have tk : (dp < da ∨ (dp = da ∧ p ≤ a)) → wY_findWay_89 post (wY_findWay_11 post (nI w) T K G F R A L n) (nI w) x (nI i) (nI p) T K G F R A L := fun hs => take (Or.inr ⟨a, da, ex, ha, ed, hda, hs⟩)
          rw [ex] at skip tk ⊢
          refine br_f (nI_pos (by omega)) ⟨vp, va, ?_⟩
          rw [ca, edp, ed]
          refine pk_lt dp da (fun lt => tk (Or.inl lt)) (fun ge => ⟨vp, va, pk_eq dp da (fun eq => pk_le a p (fun le => skip (Or.inr ⟨eq.symm, le⟩)) (fun lt => tk (Or.inr ⟨eq, by omega⟩))) (fun ne => skip (Or.inl (by omega)))⟩)
theorem ya_way {post : Int32 → SY → Prop} (ok : hp_ok P F R) (hT : hp_T P T) (hw : w < 3) (ho : o < 24) {d : Nat} (hd : d ≤ 23) (h1 : ∃ p, bt (hp_rts R w) p = true ∧ hp_wk F w (P w) d p o) (h2 : ∀ p j, bt (hp_rts R w) p = true → hp_wk F w (P w) j p o → d ≤ j) (h : ∀ B M, (∀ j, j ≤ d → M j = hp_pt F R w (P w) o d j) → post (nI (d + 1)) (T, K, G, F, R, B, M)) : wpY_findWay post (T, K, G, F, R, A, L) (nI w) (nI o) := by
  unfold wpY_findWay
  dsimp only
  refine ya_far ok hT hw ho (fun B fr => ?_)
  exact ya_way11 ok hw ho hd h1 h2 fr (h B)
end
end
section
/-! depth and way -/
section
variable {P T K G F R A L : Nat → Int32} {w o : Nat}
/-- X's least number of references is the one that walks have -/
theorem hp_dep (ok : hp_ok P F R) (hw : w < 3) {d : Nat} (hd : d ≤ 23) (hb : bt (hp_it F w (hp_rts R w) 0 d) o = true) (hn : ∀ j, j < d → ¬ bt (hp_it F w (hp_rts R w) 0 j) o = true) :
    bt (hp_clo F w (hp_rts R w) 0) o = true ∧ (∃ p, bt (hp_rts R w) p = true ∧ hp_wk F w (P w) d p o) ∧ ∀ p j, bt (hp_rts R w) p = true → hp_wk F w (P w) j p o → d ≤ j := by
  have al : bt (hp_clo F w (hp_rts R w) 0) o = true := by
    have := hp_it_mono hb (24 - d)
    rw [show d + (24 - d) = 24 by omega] at this
    exact this
  obtain ⟨e, he, h1, h2, h3, h4⟩ := hp_depth (Z := P w) (hp_rts_S R w) (fun i hi => hp_alive ok hw hi) al
  have : e = d := by
    rcases Nat.lt_trichotomy e d with z | z | z
    · exact absurd h1 (hn e z)
    · exact z
    · exact absurd hb (h2 d z)
  subst this
  exact ⟨al, h3, h4⟩
theorem i_vc_depth {k : Nat} {u : SX} {v : SY} (I : i_Rel k u v) (hk : k + 4 ≤ 2048) (v1 : Int32) (v2 : Int32) : wpX_depth (fun r => wpY_depth (fun r' v' => r' = r ∧ i_Rel (k + 4) u v') v v1 v2) u v1 v2 := by
  have J := I
  obtain ⟨P, K, G, F, R, T, A, L, rfl, rfl, ok, hT⟩ := I
  unfold wpX_depth wpY_depth
  dsimp only
  rcases hp_place v1 with ⟨w, hw, rfl⟩ | bad
  · refine xa_plT hw (xa_lref ok hw (fun d o hd ho e hb hn => ?_) (fun n => ?_))
    · subst e
      obtain ⟨al, h1, h2⟩ := hp_dep ok hw hd hb hn
      refine ya_plT hw (ya_isAlive ok hw (fun n => absurd ((hp_in_nI ho).mpr al) n) (fun _ => br_f (by decide) (ya_way ok hT hw ho hd h1 h2 (fun B M _ => ⟨rfl, ?_⟩))))
      exact ⟨_, _, _, _, _, _, _, _, rfl, rfl, ok, hT⟩
    · exact ya_plT hw (ya_isAlive ok hw (fun _ => br_t rfl ⟨rfl, J⟩) (fun h => absurd h n))
  · exact xa_plF bad (ya_plF bad ⟨rfl, J⟩)
theorem i_vc_way {k : Nat} {u : SX} {v : SY} (I : i_Rel k u v) (hk : k + 4 ≤ 2048) (v1 : Int32) (v2 : Int32) (v3 : Int32) : wpX_way (fun r => wpY_way (fun r' v' => r' = r ∧ i_Rel (k + 4) u v') v v1 v2 v3) u v1 v2 v3 := by
  have J := I
  obtain ⟨P, K, G, F, R, T, A, L, rfl, rfl, ok, hT⟩ := I
  unfold wpX_way wpY_way
  dsimp only
  rcases hp_place v1 with ⟨w, hw, rfl⟩ | bad
  · refine xa_plT hw (xa_lref ok hw (fun d o hd ho e hb hn => ?_) (fun n => ?_))
    · subst e
      obtain ⟨al, h1, h2⟩ := hp_dep ok hw hd hb hn
      have yes : hp_in (hp_clo F w (hp_rts R w) 0) (nI o) := (hp_in_nI ho).mpr al
      refine br_c (fun neg => ?_) (fun pos => ?_)
      · refine ya_plT hw (ya_isAlive ok hw (fun n => absurd yes n) (fun _ => br_f (by decide) (ya_way ok hT hw ho hd h1 h2 (fun B M _ => br_t neg ⟨rfl, ?_⟩))))
        exact ⟨_, _, _, _, _, _, _, _, rfl, rfl, ok, hT⟩
      · obtain ⟨i, hi, rfl⟩ := nI_of pos
        refine pk_lt i (d + 1) (fun lt => xa_rts ok hw (xa_way43 ok hw hd (i0 := i) (by omega) ?_)) (fun ge => ?_)
        · refine ya_plT hw (ya_isAlive ok hw (fun n => absurd yes n) (fun _ => br_f (by decide) (ya_way ok hT hw ho hd h1 h2 (fun B M hM => br_f pos (br_f (nI_ge lt (by omega)) ⟨vp_in_nI (by omega) (by decide), ?_, ?_⟩)))))
          · rw [nI_clamp hi]
            exact hM i (by omega)
          · exact ⟨_, _, _, _, _, _, _, _, rfl, rfl, ok, hT⟩
        · refine ya_plT hw (ya_isAlive ok hw (fun n => absurd yes n) (fun _ => br_f (by decide) (ya_way ok hT hw ho hd h1 h2 (fun B M _ => br_f pos (br_t (nI_le ge hi) ⟨rfl, ?_⟩)))))
          exact ⟨_, _, _, _, _, _, _, _, rfl, rfl, ok, hT⟩
    · refine br_c (fun neg => ?_) (fun pos => br_f (fun z => ?_) ?_)
      · exact ya_plT hw (ya_isAlive ok hw (fun _ => br_t rfl (br_t neg ⟨rfl, J⟩)) (fun h => absurd h n))
      · rw [Int32.lt_iff_toInt_lt] at z pos
        have a : (-3 : Int32).toInt = -3 := by decide
        have b : (0 : Int32).toInt = 0 := by decide
        omega
      · exact ya_plT hw (ya_isAlive ok hw (fun _ => br_t rfl (br_f pos (br_t (Int32.not_lt.mp pos) ⟨rfl, J⟩))) (fun h => absurd h n))
  · exact xa_plF bad (ya_plF bad ⟨rfl, J⟩)
end
end
