/-! the graph of a place: successors, roots, closures, what sweep leaves -/
/-- field of object a of place w refers to p -/
def hp_E (F : Nat → Int32) (w a p : Nat) : Prop := ∃ m, m < 96 ∧ m / 4 = a ∧ F (96 * w + m) = nI p
noncomputable def hp_suc (F : Nat → Int32) (w : Nat) (s : Int32) : Int32 := hp_mk (fun p => hp_d (∃ a, bt s a = true ∧ hp_E F w a p)) 24
theorem hp_suc_iff {F : Nat → Int32} {w : Nat} {s : Int32} {p : Nat} : bt (hp_suc F w s) p = true ↔ p < 24 ∧ ∃ a, bt s a = true ∧ hp_E F w a p := by
  unfold hp_suc
  rw [hp_mk24, hp_d_iff]
theorem hp_suc_S (F : Nat → Int32) (w : Nat) (s : Int32) : hp_S (hp_suc F w s) := hp_mk_S _
noncomputable def hp_rts (R : Nat → Int32) (w : Nat) : Int32 := hp_mk (fun p => hp_d (∃ r, r < 4 ∧ R (4 * w + r) = nI p)) 24
theorem hp_rts_iff {R : Nat → Int32} {w p : Nat} : bt (hp_rts R w) p = true ↔ p < 24 ∧ ∃ r, r < 4 ∧ R (4 * w + r) = nI p := by
  unfold hp_rts
  rw [hp_mk24, hp_d_iff]
theorem hp_rts_S (R : Nat → Int32) (w : Nat) : hp_S (hp_rts R w) := hp_mk_S _
/-- from s, in k steps, barred ones b neither met nor passed -/
noncomputable def hp_it (F : Nat → Int32) (w : Nat) (s b : Int32) : Nat → Int32
  | 0 => s &&& (b ^^^ (-1))
  | k + 1 => hp_it F w s b k ||| (hp_suc F w (hp_it F w s b k) &&& (b ^^^ (-1)))
noncomputable def hp_clo (F : Nat → Int32) (w : Nat) (s b : Int32) : Int32 := hp_it F w s b 24
theorem hp_it_s (F : Nat → Int32) (w : Nat) (s b : Int32) (k : Nat) : hp_it F w s b (k + 1) = hp_it F w s b k ||| (hp_suc F w (hp_it F w s b k) &&& (b ^^^ (-1))) := rfl
theorem hp_it_S {F : Nat → Int32} {w : Nat} {s b : Int32} (hs : hp_S s) : ∀ k, hp_S (hp_it F w s b k)
  | 0 => hp_S_and hs
  | k + 1 => hp_S_or (hp_it_S hs k) (hp_S_and (hp_suc_S F w _))
theorem hp_it_inc (F : Nat → Int32) (w : Nat) (s b : Int32) (k i : Nat) (h : bt (hp_it F w s b k) i = true) : bt (hp_it F w s b (k + 1)) i = true := by
  rw [hp_it_s]; exact hp_or_iff.mpr (Or.inl h)
theorem hp_it_stab (F : Nat → Int32) (w : Nat) (s b : Int32) (k : Nat) (h : hp_it F w s b (k + 1) = hp_it F w s b k) : hp_it F w s b (k + 2) = hp_it F w s b (k + 1) := by
  rw [hp_it_s F w s b (k + 1), h, ← hp_it_s, h]
theorem hp_it_mono {F : Nat → Int32} {w : Nat} {s b : Int32} {k i : Nat} (h : bt (hp_it F w s b k) i = true) : ∀ d, bt (hp_it F w s b (k + d)) i = true
  | 0 => h
  | d + 1 => hp_it_inc F w s b (k + d) i (hp_it_mono h d)
theorem hp_it_25 {F : Nat → Int32} {w : Nat} {s b : Int32} (hs : hp_S s) : hp_it F w s b 25 = hp_clo F w s b := hp_pg24 (hp_it F w s b) (hp_it_S hs) (hp_it_inc F w s b) (hp_it_stab F w s b)
theorem hp_it_still {F : Nat → Int32} {w : Nat} {s b : Int32} {k : Nat} (hk : k ≤ 24) (h : hp_it F w s b (k + 1) = hp_it F w s b k) : hp_it F w s b k = hp_clo F w s b := by
  have := (hp_still (hp_it F w s b) (hp_it_stab F w s b) h (24 - k)).2
  rw [show k + (24 - k) = 24 by omega] at this
  exact this.symm
theorem hp_clo_S {F : Nat → Int32} {w : Nat} {s b : Int32} (hs : hp_S s) : hp_S (hp_clo F w s b) := hp_it_S hs 24
theorem hp_clo_start {F : Nat → Int32} {w : Nat} {s b : Int32} {i : Nat} (h : bt s i = true) (hb : ¬ bt b i = true) : bt (hp_clo F w s b) i = true := by
  have := hp_it_mono (F := F) (w := w) (s := s) (b := b) (k := 0) (i := i) (hp_andn_iff.mpr ⟨h, hb⟩) 24
  rw [Nat.zero_add] at this
  exact this
theorem hp_clo_step {F : Nat → Int32} {w : Nat} {s b : Int32} (hs : hp_S s) {a p : Nat} (h : bt (hp_clo F w s b) a = true) (he : hp_E F w a p) (hp : p < 24) (hb : ¬ bt b p = true) : bt (hp_clo F w s b) p = true := by
  rw [← hp_it_25 hs, hp_it_s]
  exact hp_or_iff.mpr (Or.inr (hp_andn_iff.mpr ⟨hp_suc_iff.mpr ⟨hp, a, h, he⟩, hb⟩))
theorem hp_it_ind {F : Nat → Int32} {w : Nat} {s b : Int32} (T : Nat → Prop) (h0 : ∀ i, bt s i = true → ¬ bt b i = true → T i) (h1 : ∀ a p, T a → hp_E F w a p → p < 24 → ¬ bt b p = true → T p) : ∀ k i, bt (hp_it F w s b k) i = true → T i
  | 0 => fun i h => h0 i (hp_andn_iff.mp h).1 (hp_andn_iff.mp h).2
  | k + 1 => fun i h => by
    rw [hp_it_s] at h
    rcases hp_or_iff.mp h with h | h
    · exact hp_it_ind T h0 h1 k i h
    · obtain ⟨h2, h3⟩ := hp_andn_iff.mp h
      obtain ⟨h4, a, h5, h6⟩ := hp_suc_iff.mp h2
      exact h1 a i (hp_it_ind T h0 h1 k a h5) h6 h4 h3
theorem hp_clo_ind {F : Nat → Int32} {w : Nat} {s b : Int32} (T : Nat → Prop) (h0 : ∀ i, bt s i = true → ¬ bt b i = true → T i) (h1 : ∀ a p, T a → hp_E F w a p → p < 24 → ¬ bt b p = true → T p) {i : Nat} (h : bt (hp_clo F w s b) i = true) : T i := hp_it_ind T h0 h1 24 i h
theorem hp_clo_b {F : Nat → Int32} {w : Nat} {s b : Int32} {i : Nat} (h : bt (hp_clo F w s b) i = true) : ¬ bt b i = true :=
  hp_clo_ind (fun i => ¬ bt b i = true) (fun _ _ h => h) (fun _ _ _ _ _ h => h) h
/-- what both sides' loops find: between the closure and a closed set there is nothing -/
theorem hp_clo_uniq {F : Nat → Int32} {w : Nat} {s b t : Int32} (h0 : ∀ i, bt s i = true → ¬ bt b i = true → bt t i = true) (h1 : ∀ a p, bt t a = true → hp_E F w a p → p < 24 → ¬ bt b p = true → bt t p = true) (h2 : ∀ i, bt t i = true → bt (hp_clo F w s b) i = true) : t = hp_clo F w s b :=
  hp_ext fun i => ⟨h2 i, hp_clo_ind (fun i => bt t i = true) h0 h1⟩
/-- only the barred ones that are alive count -/
theorem hp_clo_bar {F : Nat → Int32} {w : Nat} {s b c : Int32} (hs : hp_S s) (h : ∀ i, bt (hp_clo F w s 0) i = true → (bt b i = true ↔ bt c i = true)) : hp_clo F w s b = hp_clo F w s c := by
  have key : ∀ x y : Int32, (∀ i, bt (hp_clo F w s 0) i = true → (bt x i = true ↔ bt y i = true)) → ∀ i, bt (hp_clo F w s x) i = true → bt (hp_clo F w s y) i = true := by
    intro x y hxy i hi
    refine (hp_clo_ind (F := F) (w := w) (s := s) (b := x) (fun i => bt (hp_clo F w s 0) i = true ∧ bt (hp_clo F w s y) i = true) ?_ ?_ hi).2
    · intro i h1 h2
      have l := hp_clo_start (F := F) (w := w) (b := 0) h1 hp_0
      exact ⟨l, hp_clo_start h1 (fun z => h2 ((hxy i l).mpr z))⟩
    · intro a p ⟨h1, h2⟩ he hp hb
      have l := hp_clo_step hs h1 he hp hp_0
      exact ⟨l, hp_clo_step hs h2 he hp (fun z => hb ((hxy p l).mpr z))⟩
  exact hp_ext fun i => ⟨key b c h i, key c b (fun i hi => (h i hi).symm) i⟩
/-- barred ones make it no greater -/
theorem hp_clo_sub {F : Nat → Int32} {w : Nat} {s b : Int32} (hs : hp_S s) {i : Nat} (h : bt (hp_clo F w s b) i = true) : bt (hp_clo F w s 0) i = true :=
  hp_clo_ind (fun i => bt (hp_clo F w s 0) i = true) (fun _ h _ => hp_clo_start h hp_0) (fun _ _ h he hp _ => hp_clo_step hs h he hp hp_0) h
/-! what sweep leaves -/
noncomputable def hp_sw (F : Nat → Int32) (r P : Int32) : Nat → Int32
  | 0 => P
  | k + 1 => hp_sw F r P k &&& (r ||| hp_suc F 0 (hp_sw F r P k))
theorem hp_sw_s (F : Nat → Int32) (r P : Int32) (k : Nat) : hp_sw F r P (k + 1) = hp_sw F r P k &&& (r ||| hp_suc F 0 (hp_sw F r P k)) := rfl
theorem hp_sw_dec (F : Nat → Int32) (r P : Int32) (k i : Nat) (h : bt (hp_sw F r P (k + 1)) i = true) : bt (hp_sw F r P k) i = true := by
  rw [hp_sw_s] at h; exact (hp_and_iff.mp h).1
theorem hp_sw_stab (F : Nat → Int32) (r P : Int32) (k : Nat) (h : hp_sw F r P (k + 1) = hp_sw F r P k) : hp_sw F r P (k + 2) = hp_sw F r P (k + 1) := by
  rw [hp_sw_s F r P (k + 1), h, ← hp_sw_s, h]
theorem hp_sw_P (F : Nat → Int32) (r P : Int32) : ∀ k i, bt (hp_sw F r P k) i = true → bt P i = true
  | 0 => fun _ h => h
  | k + 1 => fun i h => hp_sw_P F r P k i (hp_sw_dec F r P k i h)
theorem hp_sw_S {F : Nat → Int32} {r P : Int32} (hP : hp_S P) (k : Nat) : hp_S (hp_sw F r P k) := fun i h => hP i (hp_sw_P F r P k i h)
theorem hp_sw_lt {F : Nat → Int32} {r P : Int32} (hP : hp_S P) {k : Nat} (ne : ¬ hp_sw F r P (k + 1) = hp_sw F r P k) : hp_c (hp_sw F r P (k + 1)) 24 < hp_c (hp_sw F r P k) 24 := by
  have : ∃ a, ¬ bt (hp_sw F r P (k + 1)) a = true ∧ bt (hp_sw F r P k) a = true := by
    apply Classical.byContradiction
    intro h
    exact ne (hp_ext fun i => ⟨hp_sw_dec F r P k i, fun z => Classical.byContradiction fun y => h ⟨i, y, z⟩⟩)
  obtain ⟨a, h1, h2⟩ := this
  exact hp_c_lt h1 h2 24 (fun i _ => hp_sw_dec F r P k i) (hp_sw_S hP _ a h2)
theorem hp_sw_pg {F : Nat → Int32} {r P : Int32} (hP : hp_S P) : ∀ k, hp_sw F r P (k + 1) = hp_sw F r P k ∨ k + hp_c (hp_sw F r P k) 24 ≤ 24
  | 0 => Or.inr (by have := hp_c_le (hp_sw F r P 0) 24; omega)
  | k + 1 => by
    by_cases e : hp_sw F r P (k + 2) = hp_sw F r P (k + 1)
    · exact Or.inl e
    · have ne : ¬ hp_sw F r P (k + 1) = hp_sw F r P k := fun z => e (hp_sw_stab F r P k z)
      have ih := (hp_sw_pg hP k).resolve_left ne
      have := hp_sw_lt hP ne
      exact Or.inr (by omega)
theorem hp_sw_25 {F : Nat → Int32} {r P : Int32} (hP : hp_S P) : hp_sw F r P 25 = hp_sw F r P 24 := by
  rcases hp_sw_pg (F := F) (r := r) hP 24 with h | h
  · exact h
  · have z := hp_c_zero (s := hp_sw F r P 24) 24 (by omega)
    exact hp_ext fun i => ⟨hp_sw_dec F r P 24 i, fun y => absurd y (z i (hp_sw_S hP 24 i y))⟩
theorem hp_sw_end {F : Nat → Int32} {r P : Int32} (hP : hp_S P) {k : Nat} (h : hp_sw F r P (k + 1) = hp_sw F r P k) : hp_sw F r P k = hp_sw F r P 24 := by
  rcases Nat.le_total k 24 with l | l
  · have := (hp_still (hp_sw F r P) (hp_sw_stab F r P) h (24 - k)).2
    rw [show k + (24 - k) = 24 by omega] at this
    exact this.symm
  · have := (hp_still (hp_sw F r P) (hp_sw_stab F r P) (hp_sw_25 hP) (k - 24)).2
    rw [show 24 + (k - 24) = k by omega] at this
    exact this
/-- what roots refer to is left -/
theorem hp_sw_root {F : Nat → Int32} {r P : Int32} {i : Nat} (h : bt r i = true) (hP : bt P i = true) : ∀ k, bt (hp_sw F r P k) i = true
  | 0 => hP
  | k + 1 => by
    rw [hp_sw_s]
    exact hp_and_iff.mpr ⟨hp_sw_root h hP k, hp_or_iff.mpr (Or.inl h)⟩
/-- what one that is left refers to is left -/
theorem hp_sw_ref {F : Nat → Int32} {r P : Int32} {a p : Nat} (he : hp_E F 0 a p) (hp : p < 24) (hP : bt P p = true) : ∀ k, bt (hp_sw F r P k) a = true → bt (hp_sw F r P k) p = true
  | 0 => fun _ => hP
  | k + 1 => fun h => by
    have h' := hp_sw_dec F r P k a h
    rw [hp_sw_s]
    exact hp_and_iff.mpr ⟨hp_sw_ref he hp hP k h', hp_or_iff.mpr (Or.inr (hp_suc_iff.mpr ⟨hp, a, h', he⟩))⟩
/-! the state that both sides share -/
def hp_ok (P F R : Nat → Int32) : Prop :=
  (∀ w, w < 3 → hp_S (P w)) ∧ (∀ i, i < 288 → F i = -1 ∨ ∃ p, p < 24 ∧ F i = nI p) ∧ (∀ w r, w < 3 → r < 4 → R (4 * w + r) = -1 ∨ ∃ p, p < 24 ∧ R (4 * w + r) = nI p ∧ bt (P w) p = true) ∧ (∀ w m p, w < 3 → m < 96 → p < 24 → bt (P w) (m / 4) = true → F (96 * w + m) = nI p → bt (P w) p = true)
theorem hp_nI_inj {a b : Nat} (ha : a < 24) (hb : b < 24) (h : nI a = nI b) : a = b := (nI_eq (by omega) (by omega)).mp h
/-- alive ones are there -/
theorem hp_alive {P F R : Nat → Int32} (ok : hp_ok P F R) {w : Nat} (hw : w < 3) {b : Int32} {i : Nat} (h : bt (hp_clo F w (hp_rts R w) b) i = true) : bt (P w) i = true := by
  refine hp_clo_ind (fun i => bt (P w) i = true) ?_ ?_ h
  · intro i h1 _
    obtain ⟨hi, r, hr, e⟩ := hp_rts_iff.mp h1
    rcases ok.2.2.1 w r hw hr with z | ⟨p, hp, e2, hb⟩
    · rw [e] at z; exact absurd z (hp_nI_ne (by omega))
    · rw [e] at e2
      rw [hp_nI_inj hi hp e2]
      exact hb
  · intro a p ha ⟨m, hm, e1, e2⟩ hp _
    exact ok.2.2.2 w m p hw hm hp (by rw [e1]; exact ha) e2
theorem hp_step_P {P F R : Nat → Int32} (ok : hp_ok P F R) {w : Nat} (hw : w < 3) {a p : Nat} (hp : p < 24) (ha : bt (P w) a = true) (he : hp_E F w a p) : bt (P w) p = true := by
  obtain ⟨m, hm, e1, e2⟩ := he
  exact ok.2.2.2 w m p hw hm hp (by rw [e1]; exact ha) e2
