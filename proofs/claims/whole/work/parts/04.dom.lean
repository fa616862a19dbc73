/-! dominators and rings -/
abbrev hp_o (a : Nat) : Int32 := (1 : Int32) <<< (nI a &&& 31)
noncomputable def hp_lost (F : Nat → Int32) (w : Nat) (s b : Int32) : Int32 := hp_clo F w s 0 &&& (hp_clo F w s b ^^^ (-1))
theorem hp_lost_iff {F : Nat → Int32} {w : Nat} {s b : Int32} {i : Nat} : bt (hp_lost F w s b) i = true ↔ bt (hp_clo F w s 0) i = true ∧ ¬ bt (hp_clo F w s b) i = true := hp_andn_iff
theorem hp_lost_S {F : Nat → Int32} {w : Nat} {s b : Int32} (hs : hp_S s) : hp_S (hp_lost F w s b) := fun i h => hp_clo_S hs i (hp_lost_iff.mp h).1
section
variable {F : Nat → Int32} {w : Nat} {s : Int32}
theorem hp_dm_alive (hs : hp_S s) {a o : Nat} (ha : a < 24) (h : bt (hp_lost F w s (hp_o a)) o = true) : bt (hp_clo F w s 0) a = true := by
  apply Classical.byContradiction
  intro n
  obtain ⟨h1, h2⟩ := hp_lost_iff.mp h
  have e : hp_clo F w s (hp_o a) = hp_clo F w s 0 := by
    refine hp_clo_bar hs fun i hi => ?_
    rw [hp_one_iff (by omega : a < 32)]
    exact ⟨fun z => absurd (z ▸ hi) n, fun z => absurd z hp_0⟩
  rw [e] at h2
  exact h2 h1
theorem hp_dm_self {a : Nat} (ha : a < 24) (h : bt (hp_clo F w s 0) a = true) : bt (hp_lost F w s (hp_o a)) a = true :=
  hp_lost_iff.mpr ⟨h, fun z => hp_clo_b z ((hp_one_iff (by omega)).mpr rfl)⟩
theorem hp_dm_total (hs : hp_S s) {a b o : Nat} (ha : a < 24) (hb : b < 24) (hab : ¬ a = b) (h1 : bt (hp_lost F w s (hp_o a)) o = true) (h2 : bt (hp_lost F w s (hp_o b)) o = true) : bt (hp_lost F w s (hp_o a)) b = true ∨ bt (hp_lost F w s (hp_o b)) a = true := by
  apply Classical.byContradiction
  intro n
  have aa := hp_dm_alive hs ha h1
  have ab := hp_dm_alive hs hb h2
  have nb : bt (hp_clo F w s (hp_o a)) b = true := Classical.byContradiction fun z => n (Or.inl (hp_lost_iff.mpr ⟨ab, z⟩))
  have na : bt (hp_clo F w s (hp_o b)) a = true := Classical.byContradiction fun z => n (Or.inr (hp_lost_iff.mpr ⟨aa, z⟩))
  have key : bt (hp_clo F w s (hp_o a)) o = true ∨ bt (hp_clo F w s (hp_o b)) o = true := by
    refine hp_clo_ind (F := F) (w := w) (s := s) (b := 0) (fun i => bt (hp_clo F w s (hp_o a)) i = true ∨ bt (hp_clo F w s (hp_o b)) i = true) ?_ ?_ (hp_lost_iff.mp h1).1
    · intro i hi _
      by_cases z : i = a
      · exact Or.inr (z ▸ na)
      · exact Or.inl (hp_clo_start hi (fun y => z ((hp_one_iff (by omega)).mp y)))
    · intro x p hx he hp _
      rcases hx with hx | hx
      · by_cases z : p = a
        · exact Or.inr (z ▸ na)
        · exact Or.inl (hp_clo_step hs hx he hp (fun y => z ((hp_one_iff (by omega)).mp y)))
      · by_cases z : p = b
        · exact Or.inl (z ▸ nb)
        · exact Or.inr (hp_clo_step hs hx he hp (fun y => z ((hp_one_iff (by omega)).mp y)))
  exact key.elim (hp_lost_iff.mp h1).2 (hp_lost_iff.mp h2).2
theorem hp_dm_sub (hs : hp_S s) {a b : Nat} (ha : a < 24) (h : bt (hp_lost F w s (hp_o b)) a = true) {i : Nat} (hi : bt (hp_lost F w s (hp_o a)) i = true) : bt (hp_lost F w s (hp_o b)) i = true := by
  obtain ⟨_, na⟩ := hp_lost_iff.mp h
  obtain ⟨h1, h2⟩ := hp_lost_iff.mp hi
  refine hp_lost_iff.mpr ⟨h1, fun z => h2 ?_⟩
  refine (hp_clo_ind (F := F) (w := w) (s := s) (b := hp_o b) (fun i => bt (hp_clo F w s (hp_o b)) i = true ∧ bt (hp_clo F w s (hp_o a)) i = true) ?_ ?_ z).2
  · intro i h3 h4
    have l := hp_clo_start (F := F) (w := w) h3 h4
    exact ⟨l, hp_clo_start h3 (fun y => na ((hp_one_iff (by omega)).mp y ▸ l))⟩
  · intro x p ⟨h3, h4⟩ he hp h5
    have l := hp_clo_step hs h3 he hp h5
    exact ⟨l, hp_clo_step hs h4 he hp (fun y => na ((hp_one_iff (by omega)).mp y ▸ l))⟩
theorem hp_dm_anti (hs : hp_S s) {a b : Nat} (ha : a < 24) (hb : b < 24) (hab : ¬ a = b) (h1 : bt (hp_lost F w s (hp_o a)) b = true) (h2 : bt (hp_lost F w s (hp_o b)) a = true) : False := by
  obtain ⟨_, n1⟩ := hp_lost_iff.mp h1
  obtain ⟨a1, n2⟩ := hp_lost_iff.mp h2
  have key : bt (hp_clo F w s (hp_o a)) a = true ∧ bt (hp_clo F w s (hp_o b)) a = true := by
    refine hp_clo_ind (F := F) (w := w) (s := s) (b := 0) (fun i => bt (hp_clo F w s (hp_o a)) i = true ∧ bt (hp_clo F w s (hp_o b)) i = true) ?_ ?_ a1
    · intro i hi _
      have x1 : ¬ i = a := fun z => n2 (by subst z; exact hp_clo_start hi (fun y => hab ((hp_one_iff (by omega)).mp y)))
      have x2 : ¬ i = b := fun z => n1 (by subst z; exact hp_clo_start hi (fun y => hab ((hp_one_iff (by omega)).mp y).symm))
      exact ⟨hp_clo_start hi (fun y => x1 ((hp_one_iff (by omega)).mp y)), hp_clo_start hi (fun y => x2 ((hp_one_iff (by omega)).mp y))⟩
    · intro x p ⟨h3, h4⟩ he hp _
      have x1 : ¬ p = a := fun z => n2 (by subst z; exact hp_clo_step hs h4 he hp (fun y => hab ((hp_one_iff (by omega)).mp y)))
      have x2 : ¬ p = b := fun z => n1 (by subst z; exact hp_clo_step hs h3 he hp (fun y => hab ((hp_one_iff (by omega)).mp y).symm))
      exact ⟨hp_clo_step hs h3 he hp (fun y => x1 ((hp_one_iff (by omega)).mp y)), hp_clo_step hs h4 he hp (fun y => x2 ((hp_one_iff (by omega)).mp y))⟩
  exact hp_clo_b key.1 ((hp_one_iff (by omega)).mpr rfl)
/-- the dominators of o -/
def hp_D (F : Nat → Int32) (w : Nat) (s : Int32) (o a : Nat) : Prop := a < 24 ∧ ¬ a = o ∧ bt (hp_lost F w s (hp_o a)) o = true
/-- the dominator of o: it dominates no other dominator of o -/
def hp_DM (F : Nat → Int32) (w : Nat) (s : Int32) (o a : Nat) : Prop := hp_D F w s o a ∧ ∀ b, hp_D F w s o b → bt (hp_lost F w s (hp_o a)) b = true → b = a
theorem hp_DM_uniq (hs : hp_S s) {o a b : Nat} (h1 : hp_DM F w s o a) (h2 : hp_DM F w s o b) : a = b := by
  apply Classical.byContradiction
  intro n
  rcases hp_dm_total hs h1.1.1 h2.1.1 n h1.1.2.2 h2.1.2.2 with z | z
  · exact n (h1.2 b h2.1 z).symm
  · exact n (h2.2 a h1.1 z)
theorem hp_DM_min (hs : hp_S s) {o a : Nat} (h : hp_D F w s o a) (hm : ∀ b, hp_D F w s o b → hp_c (hp_lost F w s (hp_o a)) 24 ≤ hp_c (hp_lost F w s (hp_o b)) 24) : hp_DM F w s o a := by
  refine ⟨h, fun b hb hl => Classical.byContradiction fun n => ?_⟩
  have lt := hp_c_lt (s := hp_lost F w s (hp_o b)) (t := hp_lost F w s (hp_o a)) (a := a) (fun z => hp_dm_anti hs h.1 hb.1 (fun y => n y.symm) hl z) (hp_dm_self h.1 (hp_dm_alive hs h.1 h.2.2)) 24 (fun i _ hi => hp_dm_sub hs hb.1 hl hi) h.1
  have := hm b hb
  omega
/-! rings -/
noncomputable def hp_af (F : Nat → Int32) (w o : Nat) : Int32 := hp_clo F w (hp_suc F w (hp_o o)) 0
theorem hp_af_S (F : Nat → Int32) (w o : Nat) : hp_S (hp_af F w o) := hp_clo_S (hp_suc_S F w _)
theorem hp_af_one {o p : Nat} (ho : o < 24) (hp : p < 24) (he : hp_E F w o p) : bt (hp_af F w o) p = true :=
  hp_clo_start (hp_suc_iff.mpr ⟨hp, o, (hp_one_iff (by omega)).mpr rfl, he⟩) hp_0
theorem hp_af_step {o a p : Nat} (h : bt (hp_af F w o) a = true) (hp : p < 24) (he : hp_E F w a p) : bt (hp_af F w o) p = true :=
  hp_clo_step (hp_suc_S F w _) h he hp hp_0
theorem hp_af_ind {o : Nat} (ho : o < 24) (T : Nat → Prop) (h0 : ∀ p, p < 24 → hp_E F w o p → T p) (h1 : ∀ a p, T a → hp_E F w a p → p < 24 → T p) {i : Nat} (h : bt (hp_af F w o) i = true) : T i := by
  refine hp_clo_ind T ?_ (fun a p h he hp _ => h1 a p h he hp) h
  intro i hi _
  obtain ⟨h2, a, h3, h4⟩ := hp_suc_iff.mp hi
  rw [hp_one_iff (by omega)] at h3
  exact h0 i h2 (h3 ▸ h4)
theorem hp_af_trans {o p q : Nat} (hp : p < 24) (h1 : bt (hp_af F w o) p = true) (h2 : bt (hp_af F w p) q = true) : bt (hp_af F w o) q = true :=
  hp_af_ind hp (fun i => bt (hp_af F w o) i = true) (fun _ hi he => hp_af_step h1 hi he) (fun _ _ ha he hi => hp_af_step ha hi he) h2
noncomputable def hp_ring (F : Nat → Int32) (w o : Nat) : Int32 := hp_mk (fun p => bt (hp_af F w o) p && bt (hp_af F w p) o) 24
theorem hp_ring_iff {o p : Nat} : bt (hp_ring F w o) p = true ↔ p < 24 ∧ bt (hp_af F w o) p = true ∧ bt (hp_af F w p) o = true := by
  unfold hp_ring
  rw [hp_mk24, Bool.and_eq_true]
theorem hp_ring_S (F : Nat → Int32) (w o : Nat) : hp_S (hp_ring F w o) := hp_mk_S _
theorem hp_ring_sym {o p : Nat} (ho : o < 24) (h : bt (hp_ring F w o) p = true) : bt (hp_ring F w p) o = true := by
  obtain ⟨_, h2, h3⟩ := hp_ring_iff.mp h
  exact hp_ring_iff.mpr ⟨ho, h3, h2⟩
theorem hp_ring_self {o p : Nat} (ho : o < 24) (h : bt (hp_ring F w o) p = true) : bt (hp_ring F w o) o = true := by
  obtain ⟨h1, h2, h3⟩ := hp_ring_iff.mp h
  have := hp_af_trans h1 h2 h3
  exact hp_ring_iff.mpr ⟨ho, this, this⟩
theorem hp_ring_eq {o a : Nat} (ha : a < 24) (h : bt (hp_ring F w a) o = true) : hp_ring F w o = hp_ring F w a := by
  obtain ⟨h1, h2, h3⟩ := hp_ring_iff.mp h
  refine hp_ext fun q => ?_
  rw [hp_ring_iff, hp_ring_iff]
  exact ⟨fun ⟨x, y, z⟩ => ⟨x, hp_af_trans h1 h2 y, hp_af_trans h1 z h3⟩, fun ⟨x, y, z⟩ => ⟨x, hp_af_trans ha h3 y, hp_af_trans ha z h2⟩⟩
theorem hp_ring_none {o : Nat} (ho : o < 24) (h : ¬ bt (hp_af F w o) o = true) : hp_ring F w o = 0 := by
  refine hp_ext fun q => ⟨fun z => ?_, fun z => absurd z hp_0⟩
  exact absurd (hp_ring_iff.mp (hp_ring_self ho z)).2.1 h
theorem hp_ring_alive (hs : hp_S s) {o p : Nat} (ho : bt (hp_clo F w s 0) o = true) (h : bt (hp_ring F w o) p = true) : bt (hp_clo F w s 0) p = true := by
  obtain ⟨h1, h2, h3⟩ := hp_ring_iff.mp h
  exact hp_af_ind (hp_clo_S hs o ho) (fun i => bt (hp_clo F w s 0) i = true) (fun _ hi he => hp_clo_step hs ho he hi hp_0) (fun _ _ ha he hi => hp_clo_step hs ha he hi hp_0) h2
end
