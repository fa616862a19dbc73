/-! rings and greatestRing: X counts each ring at its least object, the reference marks what is done -/
section
variable {P T K G F R A L : Nat → Int32} {w o : Nat}
noncomputable def hp_rg (F R : Nat → Int32) (w : Nat) : Nat → Int32
  | 0 => 0
  | n + 1 => if bt (hp_clo F w (hp_rts R w) 0) n = true ∧ hp_ls (hp_ring F w n) = nI n then hp_rg F R w n + 1 else hp_rg F R w n
theorem hp_rg_t {n : Nat} (h : bt (hp_clo F w (hp_rts R w) 0) n = true ∧ hp_ls (hp_ring F w n) = nI n) : hp_rg F R w (n + 1) = hp_rg F R w n + 1 := if_pos h
theorem hp_rg_f {n : Nat} (h : ¬ (bt (hp_clo F w (hp_rts R w) 0) n = true ∧ hp_ls (hp_ring F w n) = nI n)) : hp_rg F R w (n + 1) = hp_rg F R w n := if_neg h
noncomputable def hp_gr (F R : Nat → Int32) (w : Nat) : Nat → Int32
  | 0 => 0
  | n + 1 => if bt (hp_clo F w (hp_rts R w) 0) n = true ∧ ¬ hp_cn (hp_ring F w n) 24 ≤ hp_gr F R w n then hp_cn (hp_ring F w n) 24 else hp_gr F R w n
theorem hp_gr_t {n : Nat} (h : bt (hp_clo F w (hp_rts R w) 0) n = true ∧ ¬ hp_cn (hp_ring F w n) 24 ≤ hp_gr F R w n) : hp_gr F R w (n + 1) = hp_cn (hp_ring F w n) 24 := if_pos h
theorem hp_gr_f {n : Nat} (h : ¬ (bt (hp_clo F w (hp_rts R w) 0) n = true ∧ ¬ hp_cn (hp_ring F w n) 24 ≤ hp_gr F R w n)) : hp_gr F R w (n + 1) = hp_gr F R w n := if_neg h
theorem hp_gr_le {a : Nat} (al : bt (hp_clo F w (hp_rts R w) 0) a = true) : ∀ n, a < n → hp_cn (hp_ring F w a) 24 ≤ hp_gr F R w n
  | 0 => fun h => absurd h (by omega)
  | n + 1 => fun h => by
    by_cases c : bt (hp_clo F w (hp_rts R w) 0) n = true ∧ ¬ hp_cn (hp_ring F w n) 24 ≤ hp_gr F R w n
    · rw [hp_gr_t c]
      by_cases z : a = n
      · rw [z, Int32.le_iff_toInt_le]; exact Int.le_refl _
      · have ih := hp_gr_le al n (by omega)
        have := c.2
        rw [Int32.le_iff_toInt_le] at *
        omega
    · rw [hp_gr_f c]
      by_cases z : a = n
      · subst z
        exact Classical.byContradiction fun y => c ⟨al, y⟩
      · exact hp_gr_le al n (by omega)
theorem xa_rings {post : Int32 → Prop} (ok : hp_ok P F R) (hw : w < 3) (h : post (hp_rg F R w 24)) : ∃ n, wX_rings_20 post (nI w) (hp_clo F w (hp_rts R w) 0) P K G F R n 0 0 := by
  refine loop_0 (fun n i t => wX_rings_20 post (nI w) (hp_clo F w (hp_rts R w) 0) P K G F R n t (nI i)) (fun i t => t = hp_rg F R w i) 24 0 rfl ?_ ?_
  · intro n t e; cases e
    exact br_t hp_le24 h
  · intro n i t hi e ih; cases e
    exact br_f (hp_n24 hi) (xa_if hi (fun b => nm_r (nI_1 i) (ih _ (hp_rg_f (fun z => b z.1)).symm)) (fun b => xa_ring ok hw hi (xa_least (br_c (fun e => nm_r (hp_rg_t ⟨b, e⟩).symm (nm_r (nI_1 i) (ih _ rfl))) (fun e => nm_r (nI_1 i) (ih _ (hp_rg_f (fun z => e z.2)).symm))))))
theorem xa_great {post : Int32 → Prop} (ok : hp_ok P F R) (hw : w < 3) (h : post (hp_gr F R w 24)) : ∃ n, wX_greatestRing_20 post (nI w) (hp_clo F w (hp_rts R w) 0) P K G F R n 0 0 := by
  refine loop_0 (fun n i t => wX_greatestRing_20 post (nI w) (hp_clo F w (hp_rts R w) 0) P K G F R n t (nI i)) (fun i t => t = hp_gr F R w i) 24 0 rfl ?_ ?_
  · intro n t e; cases e
    exact br_t hp_le24 h
  · intro n i t hi e ih; cases e
    exact br_f (hp_n24 hi) (xa_if hi (fun b => nm_r (nI_1 i) (ih _ (hp_gr_f (fun z => b z.1)).symm)) (fun b => xa_ring ok hw hi (xa_count (br_c (fun e => nm_r (nI_1 i) (ih _ (hp_gr_f (fun z => z.2 e)).symm)) (fun e => nm_r (nI_1 i) (ih _ (hp_gr_t ⟨b, e⟩).symm))))))
/-- what the reference holds after i objects -/
def hp_cI (F R : Nat → Int32) (w i : Nat) (q : Int32 × Int32 × Int32) : Prop :=
  q.1 = hp_rg F R w i ∧ q.2.1 = hp_gr F R w i ∧ ∀ p, bt q.2.2 p = true ↔ ∃ a, a < i ∧ bt (hp_clo F w (hp_rts R w) 0) a = true ∧ bt (hp_ring F w a) p = true
theorem hp_ls_lt {s : Int32} {i a : Nat} (hi : i < 24) (ha : a < i) (h : bt s a = true) : ¬ hp_ls s = nI i := by
  intro e
  rcases hp_ls_cases s with ⟨e2, _⟩ | ⟨b, hb, e2, _, hm⟩
  · rw [e] at e2
    exact hp_nI_ne (by omega) e2
  · rw [e] at e2
    have := hp_nI_inj hi hb e2
    subst this
    exact hm a ha h
theorem hp_cI_dead {i : Nat} {q : Int32 × Int32 × Int32} (h : hp_cI F R w i q) (n : ¬ bt (hp_clo F w (hp_rts R w) 0) i = true) : hp_cI F R w (i + 1) q := by
  obtain ⟨h1, h2, h3⟩ := h
  refine ⟨by rw [h1, hp_rg_f (fun z => n z.1)], by rw [h2, hp_gr_f (fun z => n z.1)], fun p => ?_⟩
  rw [h3 p]
  constructor
  · rintro ⟨a, h4, h5, h6⟩
    exact ⟨a, by omega, h5, h6⟩
  · rintro ⟨a, h4, h5, h6⟩
    have : ¬ a = i := fun z => n (z ▸ h5)
    exact ⟨a, by omega, h5, h6⟩
theorem hp_cI_done {i : Nat} (hi : i < 24) {q : Int32 × Int32 × Int32} (h : hp_cI F R w i q) (d : bt q.2.2 i = true) : hp_cI F R w (i + 1) q := by
  obtain ⟨h1, h2, h3⟩ := h
  obtain ⟨a, h4, h5, h6⟩ := (h3 i).mp d
  have eq : hp_ring F w i = hp_ring F w a := hp_ring_eq (by omega) h6
  have ai : bt (hp_ring F w i) a = true := hp_ring_sym (by omega) h6
  refine ⟨by rw [h1, hp_rg_f (fun z => hp_ls_lt hi h4 ai z.2)], ?_, fun p => ?_⟩
  · rw [h2, hp_gr_f (fun z => z.2 ?_)]
    rw [eq]
    exact hp_gr_le h5 i h4
  · rw [h3 p]
    constructor
    · rintro ⟨b, h7, h8, h9⟩
      exact ⟨b, by omega, h8, h9⟩
    · rintro ⟨b, h7, h8, h9⟩
      by_cases z : b = i
      · subst z
        rw [eq] at h9
        exact ⟨a, h4, h5, h9⟩
      · exact ⟨b, by omega, h8, h9⟩
theorem hp_cI_next {i : Nat} (hi : i < 24) {q : Int32 × Int32 × Int32} (h : hp_cI F R w i q) (al : bt (hp_clo F w (hp_rts R w) 0) i = true) (d : ¬ bt q.2.2 i = true) :
    (hp_cn (hp_ring F w i) 24 ≤ 0 → hp_rg F R w (i + 1) = q.1) ∧ (¬ hp_cn (hp_ring F w i) 24 ≤ 0 → hp_rg F R w (i + 1) = q.1 + 1) ∧ (hp_cn (hp_ring F w i) 24 ≤ q.2.1 → hp_gr F R w (i + 1) = q.2.1) ∧ (¬ hp_cn (hp_ring F w i) 24 ≤ q.2.1 → hp_gr F R w (i + 1) = hp_cn (hp_ring F w i) 24) ∧ ∀ p, bt (q.2.2 ||| hp_ring F w i) p = true ↔ ∃ a, a < i + 1 ∧ bt (hp_clo F w (hp_rts R w) 0) a = true ∧ bt (hp_ring F w a) p = true := by
  obtain ⟨h1, h2, h3⟩ := h
  have c := hp_c_le (hp_ring F w i) 24
  rw [h1, h2]
  refine ⟨fun z => hp_rg_f (fun y => ?_), fun z => hp_rg_t ⟨al, ?_⟩, fun z => hp_gr_f (fun y => y.2 z), fun z => hp_gr_t ⟨al, z⟩, fun p => ?_⟩
  · rw [hp_cn_eq _ 24 (by omega), ← nI_0, nI_leI (by omega) (by omega)] at z
    have none := hp_c_zero (s := hp_ring F w i) 24 (by omega)
    have := y.2
    rw [hp_ls_none none] at this
    exact hp_nI_ne (by omega) this.symm
  · rw [hp_cn_eq _ 24 (by omega), ← nI_0, nI_leI (by omega) (by omega)] at z
    have : ∃ p, bt (hp_ring F w i) p = true := by
      apply Classical.byContradiction
      intro no
      have e : hp_ring F w i = 0 := hp_ext fun p => ⟨fun y => absurd ⟨p, y⟩ no, fun y => absurd y hp_0⟩
      rw [e] at z
      exact z (by decide)
    obtain ⟨p, hp⟩ := this
    refine hp_ls_of hi (hp_ring_self hi hp) (fun j hj y => d ((h3 i).mpr ⟨j, hj, hp_ring_alive (hp_rts_S R w) al y, hp_ring_sym hi y⟩))
  · rw [hp_or_iff, h3 p]
    constructor
    · rintro (⟨a, h4, h5, h6⟩ | h)
      · exact ⟨a, by omega, h5, h6⟩
      · exact ⟨i, by omega, al, h⟩
    · rintro ⟨a, h4, h5, h6⟩
      by_cases z : a = i
      · subst z; exact Or.inr h6
      · exact Or.inl ⟨a, by omega, h5, h6⟩
theorem ya_count {post : Int32 → Prop} {g : Int32} (ok : hp_ok P F R) (hw : w < 3) (h0 : g = 0 → post (hp_rg F R w 24)) (h1 : ¬ g = 0 → post (hp_gr F R w 24)) : wpY_countRings post (T, K, G, F, R, A, L) (nI w) g := by
  refine loop_0 (σ := Int32 × Int32 × Int32) (fun n i q => wY_countRings_11 post (nI w) g T K G F R A L n q.1 q.2.1 q.2.2 (nI i)) (fun i q => hp_cI F R w i q) 24 (0, 0, 0) ⟨rfl, rfl, fun p => ⟨fun z => absurd z hp_0, fun ⟨a, ha, _⟩ => absurd ha (by omega)⟩⟩ ?_ ?_
  · rintro n ⟨x, y, z⟩ hI
    have e1 : x = hp_rg F R w 24 := hI.1
    have e2 : y = hp_gr F R w 24 := hI.2.1
    subst e1 e2
    exact br_t hp_le24 (br_c h0 h1)
  · rintro n i ⟨x, y, z⟩ hi hI ih
    refine br_f (hp_n24 hi) (br_c (fun d => ya_isAlive ok hw (fun a => br_t rfl (nm_r (nI_1 i) (ih (x, y, z) (hp_cI_dead hI (fun q => a ((hp_in_nI hi).mpr q)))))) (fun a => br_f (by decide) (ya_ring ok hw hi (ya_bits ?_)))) (fun d => nm_r (nI_1 i) (ih (x, y, z) (hp_cI_done hi hI ?_))))
    · have dn : ¬ bt z i = true := by
        have := (hp_sh0 z (by omega : i < 32)).mp d
        rw [this]
        decide
      obtain ⟨n1, n2, n3, n4, n5⟩ := hp_cI_next hi hI ((hp_in_nI hi).mp a) dn
      refine br_c (fun e => br_c (fun f => nm_e (nm_r (nI_1 i) (ih (x, y, z ||| hp_ring F w i) ⟨(n1 e).symm, (n3 f).symm, n5⟩))) (fun f => nm_e (nm_r (nI_1 i) (ih (x, hp_cn (hp_ring F w i) 24, z ||| hp_ring F w i) ⟨(n1 e).symm, (n4 f).symm, n5⟩)))) (fun e => br_c (fun f => nm_e (nm_r (nI_1 i) (ih (x + 1, y, z ||| hp_ring F w i) ⟨(n2 e).symm, (n3 f).symm, n5⟩))) (fun f => nm_e (nm_r (nI_1 i) (ih (x + 1, hp_cn (hp_ring F w i) 24, z ||| hp_ring F w i) ⟨(n2 e).symm, (n4 f).symm, n5⟩))))
    · show bt z i = true
      cases e : bt z i
      · exact absurd ((hp_sh0 z (by omega)).mpr e) d
      · rfl
theorem i_vc_rings {k : Nat} {u : SX} {v : SY} (I : i_Rel k u v) (hk : k + 4 ≤ 2048) (v1 : Int32) : wpX_rings (fun r => wpY_rings (fun r' => r' = r ∧ i_Rel (k + 4) u v) v v1) u v1 := by
  have J := I
  obtain ⟨P, K, G, F, R, T, A, L, rfl, rfl, ok, hT⟩ := I
  unfold wpX_rings wpY_rings
  dsimp only
  rcases hp_place v1 with ⟨w, hw, rfl⟩ | bad
  · exact xa_plT hw (xa_alive ok hw (xa_rings ok hw (ya_plT hw (ya_count ok hw (fun _ => ⟨rfl, J⟩) (fun n => absurd rfl n)))))
  · exact xa_plF bad (ya_plF bad ⟨rfl, J⟩)
theorem i_vc_greatestRing {k : Nat} {u : SX} {v : SY} (I : i_Rel k u v) (hk : k + 4 ≤ 2048) (v1 : Int32) : wpX_greatestRing (fun r => wpY_greatestRing (fun r' => r' = r ∧ i_Rel (k + 4) u v) v v1) u v1 := by
  have J := I
  obtain ⟨P, K, G, F, R, T, A, L, rfl, rfl, ok, hT⟩ := I
  unfold wpX_greatestRing wpY_greatestRing
  dsimp only
  rcases hp_place v1 with ⟨w, hw, rfl⟩ | bad
  · exact xa_plT hw (xa_alive ok hw (xa_great ok hw (ya_plT hw (ya_count ok hw (fun e => absurd e (by decide)) (fun _ => ⟨rfl, J⟩)))))
  · exact xa_plF bad (ya_plF bad ⟨rfl, J⟩)
end
