/-! the reference's findFar and findWay -/
section
variable {P T K G F R A L : Nat → Int32} {w o : Nat}
theorem hp_upd_self (A : Nat → Int32) (a : Nat) : upd A a (A a) = A := by
  funext j
  by_cases z : j = a
  · rw [z, pk_us]
  · rw [pk_un z]
theorem ya_far33 {post : SY → Prop} (ok : hp_ok P F R) (hT : hp_T P T) (hw : w < 3) (ho : o < 24) (h0 : hp_bf F w (P w) o 0 A) (h : ∀ B, hp_far F w (P w) o B → post (T, K, G, F, R, B, L)) : ∃ n, wY_findFar_33 post (nI w) n 0 T K G F R A L := by
  refine loop_0 (fun n i a => wY_findFar_33 post (nI w) n (nI i) T K G F R a L) (fun i a => hp_bf F w (P w) o i a) 2304 A h0 ?_ ?_
  · intro n a hI
    exact br_t (by decide +kernel : (2304 : Int32) ≤ nI 2304) (h a (hp_bf_end ho hI))
  · intro n i a hi hI ih
    have hm : i % 96 < 96 := Nat.mod_lt _ (by omega)
    have er : nI i - nI i / 96 * 96 = nI (i % 96) := pk_rem (d := 96) (by omega) (by omega) (by decide)
    have ed : (nI i - nI i / 96 * 96) / 4 = nI (i % 96 / 4) := by rw [er, hp_div4 hm]
    have ha : i % 96 / 4 < 24 := by omega
    have va : vp_in (nI (i % 96 / 4)) 24 := vp_in_nI ha (by decide)
    have ca : (nI (i % 96 / 4)).toNatClampNeg = i % 96 / 4 := nI_clamp (by omega)
    have skip : (∀ p, p < 24 → bt (P w) (i % 96 / 4) = true → F (96 * w + i % 96) = nI p → ¬ a p + 1 < a (i % 96 / 4)) → wY_findFar_33 post (nI w) n (nI (i + 1)) T K G F R (upd a (nI (i % 96 / 4)).toNatClampNeg (a (nI (i % 96 / 4)).toNatClampNeg)) L := by
      intro hs
      rw [hp_upd_self]
      exact ih _ (hp_bf_skip hI hs)
    refine br_f (nI_ge (b := 2304) hi (by decide)) ⟨by decide, by decide, nm_r ed ⟨pk_in (24 * w + i % 96 / 4) 72 (by omega) (hp_ixO w _), ?_⟩⟩
    rw [pk_cl (24 * w + i % 96 / 4) (hp_ixO w _), hT w _ hw ha]
    by_cases hb : bt (P w) (i % 96 / 4) = true
    · rw [if_pos hb]
      refine ⟨rfl, br_f (by decide) ⟨by decide, ?_⟩⟩
      rw [er]
      refine ⟨pk_in (96 * w + i % 96) 288 (by omega) (hp_ixF w _), ?_⟩
      rw [pk_cl (96 * w + i % 96) (hp_ixF w _)]
      rcases ok.2.1 (96 * w + i % 96) (by omega) with z | ⟨p, hp, e⟩
      · rw [z]
        refine br_t hp_m1neg ⟨va, va, nm_e (nm_r (nI_1 i) (skip (fun p hp _ e => ?_)))⟩
        rw [z] at e
        exact absurd e.symm (hp_nI_ne (by omega))
      · rw [e]
        have vp : vp_in (nI p) 24 := vp_in_nI hp (by decide)
        have cp : (nI p).toNatClampNeg = p := nI_clamp (by omega)
        refine br_f (nI_pos (by omega)) ⟨vp, va, br_c (fun le => ⟨va, va, nm_e (nm_r (nI_1 i) (skip (fun q hq _ e2 => ?_)))⟩) (fun nle => ⟨vp, va, nm_e (nm_r (nI_1 i) (ih _ ?_))⟩)⟩
        · rw [e] at e2
          rw [← hp_nI_inj hp hq e2]
          rw [ca, cp] at le
          exact Int32.not_lt.mpr le
        · rw [ca, cp] at nle ⊢
          exact hp_bf_relax hI hp hb e (Int32.not_le.mp nle)
    · rw [if_neg hb]
      exact ⟨rfl, br_t rfl (br_t hp_m1neg ⟨va, va, nm_e (nm_r (nI_1 i) (skip (fun p hp z _ => absurd z hb)))⟩)⟩
theorem ya_far {post : SY → Prop} (ok : hp_ok P F R) (hT : hp_T P T) (hw : w < 3) (ho : o < 24) (h : ∀ B, hp_far F w (P w) o B → post (T, K, G, F, R, B, L)) : wpY_findFar post (T, K, G, F, R, A, L) (nI w) (nI o) := by
  refine loop_0 (fun n i a => wY_findFar_2 post (nI w) (nI o) n (nI i) T K G F R a L) (fun i a => ∀ j, j < i → a j = if j = o then nI 0 else nI 100) 24 A (fun j hj => absurd hj (by omega)) ?_ ?_
  · intro n a hI
    exact br_t hp_le24 (ya_far33 ok hT hw ho (hp_bf_0 hI) h)
  · intro n i a hi hI ih
    have vi : vp_in (nI i) 24 := vp_in_nI hi (by decide)
    have ci : (nI i).toNatClampNeg = i := nI_clamp (by omega)
    refine br_f (hp_n24 hi) (br_c (fun e => ⟨vi, nm_e (nm_r (nI_1 i) (ih _ (fun j hj => ?_)))⟩) (fun ne => ⟨vi, nm_e (nm_r (nI_1 i) (ih _ (fun j hj => ?_)))⟩))
    · rw [ci]
      by_cases z : j = i
      · rw [z, pk_us, if_pos (hp_nI_inj hi ho e)]; rfl
      · rw [pk_un z]; exact hI j (by omega)
    · rw [ci]
      by_cases z : j = i
      · rw [z, pk_us, if_neg (fun y => ne (by rw [y]))]; rfl
      · rw [pk_un z]; exact hI j (by omega)
/-! the best root -/
theorem hp_BI_skip {i : Nat} {x : Int32} (h : hp_BI R w A i x) (hs : ∀ p, p < 24 → R (4 * w + i) = nI p → ¬ A p < 100 ∨ ∃ a d d', x = nI a ∧ a < 24 ∧ A a = nI d ∧ d < 100 ∧ A p = nI d' ∧ d' < 100 ∧ (d < d' ∨ (d = d' ∧ a ≤ p))) : hp_BI R w A (i + 1) x := by
  rcases h with ⟨e, h⟩ | ⟨a, d, ha, e, ⟨r, hr, er⟩, ed, hd, hm⟩
  · refine Or.inl ⟨e, fun r p hr hp er => ?_⟩
    by_cases z : r = i
    · subst z
      rcases hs p hp er with y | ⟨a, _, _, ex, ha, _⟩
      · exact y
      · rw [e] at ex
        exact absurd ex.symm (hp_nI_ne (by omega))
    · exact h r p (by omega) hp er
  · refine Or.inr ⟨a, d, ha, e, ⟨r, by omega, er⟩, ed, hd, fun r' p d' hr' hp er' ed' hd' => ?_⟩
    by_cases z : r' = i
    · subst z
      rcases hs p hp er' with y | ⟨a2, d2, d3, ex, ha2, ed2, hd2, ed3, hd3, y⟩
      · refine absurd ?_ y
        rw [ed']
        exact nI_lt (b := 100) hd' (by decide)
      · rw [e] at ex
        have e1 := hp_nI_inj ha ha2 ex
        subst e1
        rw [ed] at ed2
        rw [ed'] at ed3
        have e2 := (nI_eq (by omega) (by omega)).mp ed2
        have e3 := (nI_eq (by omega) (by omega)).mp ed3
        subst e2 e3
        exact y
    · exact hm r' p d' (by omega) hp er' ed' hd'
theorem hp_BI_take {i p dp : Nat} {x : Int32} (h : hp_BI R w A i x) (hp : p < 24) (er : R (4 * w + i) = nI p) (ep : A p = nI dp) (hdp : dp < 100) (hs : x = -1 ∨ ∃ a d, x = nI a ∧ a < 24 ∧ A a = nI d ∧ d < 100 ∧ (dp < d ∨ (dp = d ∧ p ≤ a))) : hp_BI R w A (i + 1) (nI p) := by
  refine Or.inr ⟨p, dp, hp, rfl, ⟨i, by omega, er⟩, ep, hdp, fun r' q d' hr' hq er' ed' hd' => ?_⟩
  by_cases z : r' = i
  · subst z
    rw [er] at er'
    have := hp_nI_inj hp hq er'
    subst this
    rw [ep] at ed'
    have := (nI_eq (by omega) (by omega)).mp ed'
    omega
  · rcases h with ⟨e, h⟩ | ⟨a, d, ha, e, _, ed, hd, hm⟩
    · refine absurd ?_ (h r' q (by omega) hq er')
      rw [ed']
      exact nI_lt (b := 100) hd' (by decide)
    · have g := hm r' q d' (by omega) hq er' ed' hd'
      rcases hs with y | ⟨a2, d2, ex, ha2, ed2, hd2, y⟩
      · rw [e] at y
        exact absurd y (hp_nI_ne (by omega))
      · rw [e] at ex
        have e1 := hp_nI_inj ha ha2 ex
        subst e1
        rw [ed] at ed2
        have e2 := (nI_eq (by omega) (by omega)).mp ed2
        subst e2
        omega
/-! the least nearer field -/
theorem hp_mn_iff {Q Q' : Nat → Prop} {x : Int32} (h : hp_mn Q x) (e : ∀ p, p < 24 → (Q p ↔ Q' p)) : hp_mn Q' x := by
  rcases h with ⟨h1, h2⟩ | ⟨a, ha, h1, h2, h3⟩
  · exact Or.inl ⟨h1, fun p hp z => h2 p hp ((e p hp).mpr z)⟩
  · exact Or.inr ⟨a, ha, h1, (e a ha).mp h2, fun p hp z => h3 p hp ((e p hp).mpr z)⟩
theorem ya_way143 {post : Int32 → SY → Prop} {J : Int32 → Int32 → (Nat → Int32) → (Nat → Int32) → (Nat → Int32) → (Nat → Int32) → (Nat → Int32) → (Nat → Int32) → (Nat → Int32) → Prop} (ok : hp_ok P F R) (hw : w < 3) {a : Nat} (ha : a < 24) {x4 : Int32} (h : ∀ x, hp_mn (fun p => hp_E F w a p ∧ A p + 1 = A a) x → J x4 x T K G F R A L) : ∃ n, wY_findWay_143 post J (nI w) x4 (nI a) T K G F R A L n (-1) 0 := by
  refine loop_0 (fun n i x => wY_findWay_143 post J (nI w) x4 (nI a) T K G F R A L n x (nI i)) (fun i x => hp_mn (fun p => (∃ f, f < i ∧ F (96 * w + (4 * a + f)) = nI p) ∧ A p + 1 = A a) x) 4 (-1) (Or.inl ⟨rfl, fun p _ ⟨⟨f, hf, _⟩, _⟩ => absurd hf (by omega)⟩) ?_ ?_
  · intro n x hI
    refine br_t hp_le4 (h x (hp_mn_iff hI (fun p hp => ?_)))
    constructor
    · rintro ⟨⟨f, hf, e⟩, q⟩
      exact ⟨⟨4 * a + f, by omega, by omega, e⟩, q⟩
    · rintro ⟨⟨m, hm, e1, e2⟩, q⟩
      exact ⟨⟨m - 4 * a, by omega, by rw [show 4 * a + (m - 4 * a) = m by omega]; exact e2⟩, q⟩
  · intro n i x hi hI ih
    have va : vp_in (nI a) 24 := vp_in_nI ha (by decide)
    have ca : (nI a).toNatClampNeg = a := nI_clamp (by omega)
    have skip : (∀ p, p < 24 → F (96 * w + (4 * a + i)) = nI p → ¬ A p + 1 = A a) → wY_findWay_143 post J (nI w) x4 (nI a) T K G F R A L n x (nI (i + 1)) := by
      intro hs
      refine ih x (hp_mn_iff hI (fun p hp => ?_))
      constructor
      · rintro ⟨⟨f, hf, e⟩, q⟩
        exact ⟨⟨f, by omega, e⟩, q⟩
      · rintro ⟨⟨f, hf, e⟩, q⟩
        by_cases z : f = i
        · subst z
          exact absurd q (hs p hp e)
        · exact ⟨⟨f, by omega, e⟩, q⟩
    refine br_f (hp_n4 hi) ⟨pk_in (96 * w + (4 * a + i)) 288 (by omega) (hp_ixG w a i), nm_r (congrArg F (pk_cl (96 * w + (4 * a + i)) (hp_ixG w a i))) ?_⟩
    rcases ok.2.1 (96 * w + (4 * a + i)) (by omega) with z | ⟨p, hp, e⟩
    · rw [z]
      refine br_t hp_m1neg (br_t rfl (nm_r (nI_1 i) (skip (fun p hp e => ?_))))
      rw [z] at e
      exact absurd e.symm (hp_nI_ne (by omega))
    · rw [e]
      have vp : vp_in (nI p) 24 := vp_in_nI hp (by decide)
      have cp : (nI p).toNatClampNeg = p := nI_clamp (by omega)
      refine br_f (nI_pos (by omega)) ⟨vp, va, ?_⟩
      rw [ca, cp]
      refine br_c (fun q => br_f (by decide) ?_) (fun q => br_t rfl (nm_r (nI_1 i) (skip (fun p' hp' e' => ?_))))
      · have now : ∀ p', p' < 24 → ((∃ f, f < i + 1 ∧ F (96 * w + (4 * a + f)) = nI p') ∧ A p' + 1 = A a) → p' = p ∨ ((∃ f, f < i ∧ F (96 * w + (4 * a + f)) = nI p') ∧ A p' + 1 = A a) := by
          rintro p' hp' ⟨⟨f, hf, e'⟩, q'⟩
          by_cases z : f = i
          · subst z
            rw [e] at e'
            exact Or.inl (hp_nI_inj hp hp' e').symm
          · exact Or.inr ⟨⟨f, by omega, e'⟩, q'⟩
        have me : (∃ f, f < i + 1 ∧ F (96 * w + (4 * a + f)) = nI p) ∧ A p + 1 = A a := ⟨⟨i, by omega, e⟩, q⟩
        have old : ∀ p', ((∃ f, f < i ∧ F (96 * w + (4 * a + f)) = nI p') ∧ A p' + 1 = A a) → (∃ f, f < i + 1 ∧ F (96 * w + (4 * a + f)) = nI p') ∧ A p' + 1 = A a := by
          rintro p' ⟨⟨f, hf, e'⟩, q'⟩
          exact ⟨⟨f, by omega, e'⟩, q'⟩
        rcases hI with ⟨ex, hn⟩ | ⟨b, hb, ex, hq, hm⟩
        · rw [ex]
          refine br_t hp_m1neg (nm_r (nI_1 i) (ih (nI p) (Or.inr ⟨p, hp, rfl, me, fun p' hp' z => ?_⟩)))
          rcases now p' hp' z with y | y
          · omega
          · exact absurd y (hn p' hp')
        · rw [ex]
          refine br_f (nI_pos (by omega)) (pk_le b p (fun le => nm_r (nI_1 i) (ih (nI b) (Or.inr ⟨b, hb, rfl, old b hq, fun p' hp' z => ?_⟩))) (fun lt => nm_r (nI_1 i) (ih (nI p) (Or.inr ⟨p, hp, rfl, me, fun p' hp' z => ?_⟩))))
          · rcases now p' hp' z with y | y
            · omega
            · exact hm p' hp' y
          · rcases now p' hp' z with y | y
            · omega
            · have := hm p' hp' y
              omega
      · rw [e] at e'
        rw [← hp_nI_inj hp hp' e']
        exact q
/-- the walk itself: r references are left -/
theorem ya_way120 {post : Int32 → SY → Prop} (ok : hp_ok P F R) (hw : w < 3) (ho : o < 24) {d : Nat} (hd : d ≤ 23) (fr : hp_far F w (P w) o A) (h : ∀ M, (∀ j, j ≤ d → M j = hp_pt F R w (P w) o d j) → post (nI (d + 1)) (T, K, G, F, R, A, M)) : ∀ r n j a (M : Nat → Int32), r + 2 ≤ n → j + r = d → a < 24 → bt (P w) a = true → A a = nI r → hp_pt F R w (P w) o d j = nI a → (∀ i, i < j → M i = hp_pt F R w (P w) o d i) → wY_findWay_120 post (nI w) n (nI j) (nI a) T K G F R A M := by
  intro r
  induction r with
  | zero =>
    intro n j a M hn hj ha hz ea ep hM
    obtain ⟨n, rfl⟩ : ∃ m, n = m + 2 := ⟨n - 2, by omega⟩
    refine br_f (nI_pos (by omega)) ⟨vp_in_nI (by omega) (by decide), nm_r (congrArg (fun i => upd M i (nI a)) (nI_clamp (by omega : j < 2 ^ 31))) (nm_r (nI_1 j) (ya_way143 ok hw ha (fun x hx => ?_)))⟩
    rw [hp_path_0 fr ea hx]
    refine br_t hp_m1neg ?_
    obtain rfl : j = d := by omega
    refine h _ (fun i hi => ?_)
    by_cases z : i = j
    · rw [z, pk_us, ep]
    · rw [pk_un z]; exact hM i (by omega)
  | succ r ih =>
    intro n j a M hn hj ha hz ea ep hM
    obtain ⟨n, rfl⟩ : ∃ m, n = m + 1 := ⟨n - 1, by omega⟩
    refine br_f (nI_pos (by omega)) ⟨vp_in_nI (by omega) (by decide), nm_r (congrArg (fun i => upd M i (nI a)) (nI_clamp (by omega : j < 2 ^ 31))) (nm_r (nI_1 j) (ya_way143 ok hw ha (fun x hx => ?_)))⟩
    obtain ⟨e1, p, hp, e2, hE, e3⟩ := hp_path_s fr (ok.1 w hw) ho ha hz (by omega) ea hx
    rw [e2]
    refine ih n (j + 1) p _ (by omega) (by omega) hp (hp_step_P ok hw hp hz hE) e3 ?_ (fun i hi => ?_)
    · show hp_ls (hp_suc F w ((1 : Int32) <<< (hp_pt F R w (P w) o d j &&& 31)) &&& hp_ct F w (P w) o (d - (j + 1))) = nI p
      rw [ep, ← e2, e1, show d - (j + 1) = r by omega]
    · by_cases z : i = j
      · rw [z, pk_us, ep]
      · rw [pk_un z]; exact hM i (by omega)
theorem ya_way11 {post : Int32 → SY → Prop} (ok : hp_ok P F R) (hw : w < 3) (ho : o < 24) {d : Nat} (hd : d ≤ 23) (h1 : ∃ p, bt (hp_rts R w) p = true ∧ hp_wk F w (P w) d p o) (h2 : ∀ p j, bt (hp_rts R w) p = true → hp_wk F w (P w) j p o → d ≤ j) (fr : hp_far F w (P w) o A) (h : ∀ M, (∀ j, j ≤ d → M j = hp_pt F R w (P w) o d j) → post (nI (d + 1)) (T, K, G, F, R, A, M)) : ∃ n, wY_findWay_11 post (nI w) T K G F R A L n (-1) 0 := by
  refine loop_0 (fun n i x => wY_findWay_11 post (nI w) T K G F R A L n x (nI i)) (fun i x => hp_BI R w A i x) 4 (-1) (Or.inl ⟨rfl, fun r p hr => absurd hr (by omega)⟩) ?_ ?_
  · intro n x hI
    obtain ⟨a, ha, ex, ra, ea, ep⟩ := hp_BI_end fr (ok.1 w hw) ho hd h1 h2 hI
    rw [ex]
    exact br_t hp_le4 ⟨d + 2, ya_way120 ok hw ho hd fr h d (d + 2) 0 a L (by omega) (by omega) ha (hp_root_P ok hw ra) ea ep (fun i hi => absurd hi (by omega))⟩
  · intro n i x hi hI ih
    refine br_f (hp_n4 hi) ⟨pk_in (4 * w + i) 12 (by omega) (hp_ixR w i), nm_r (congrArg R (pk_cl (4 * w + i) (hp_ixR w i))) ?_⟩
    rcases ok.2.2.1 w i hw hi with z | ⟨p, hp, e, _⟩
    · rw [z]
      refine br_t hp_m1neg (br_t rfl (nm_r (nI_1 i) (ih x (hp_BI_skip hI (fun p hp e => ?_)))))
      rw [z] at e
      exact absurd e.symm (hp_nI_ne (by omega))
    · rw [e]
      have vp : vp_in (nI p) 24 := vp_in_nI hp (by decide)
      have cp : (nI p).toNatClampNeg = p := nI_clamp (by omega)
      refine br_f (nI_pos (by omega)) ⟨vp, ?_⟩
      rw [cp]
      have only : ∀ q, q < 24 → R (4 * w + i) = nI q → q = p := fun q hq eq => (hp_nI_inj hp hq (e.symm.trans eq)).symm
      obtain ⟨dp, hdp, edp⟩ := hp_far_n fr hp
      refine br_c (fun big => br_t rfl (nm_r (nI_1 i) (ih x (hp_BI_skip hI (fun q hq eq => Or.inl ?_))))) (fun small => ?_)
      · rw [only q hq eq]
        exact Int32.not_lt.mpr big
      · have dlt : dp < 100 := by
          rw [edp] at small
          rcases Nat.lt_or_ge dp 100 with y | y
          · exact y
          · exact absurd (nI_le (a := 100) y (by omega)) small
        have take : (x = -1 ∨ ∃ a d, x = nI a ∧ a < 24 ∧ A a = nI d ∧ d < 100 ∧ (dp < d ∨ (dp = d ∧ p ≤ a))) → wY_findWay_89 post (wY_findWay_11 post (nI w) T K G F R A L n) (nI w) x (nI i) (nI p) T K G F R A L := fun hs => br_f (by decide) (nm_r (nI_1 i) (ih (nI p) (hp_BI_take hI hp e edp dlt hs)))
        have hI' := hI
        rcases hI' with ⟨ex, _⟩ | ⟨a, da, ha, ex, _, ed, hda, _⟩
        · have t := take (Or.inl ex)
          rw [ex] at t ⊢
          exact br_t hp_m1neg t
        · have va : vp_in (nI a) 24 := vp_in_nI ha (by decide)
          have ca : (nI a).toNatClampNeg = a := nI_clamp (by omega)
          have skip : (da < dp ∨ (da = dp ∧ a ≤ p)) → wY_findWay_93 post (wY_findWay_11 post (nI w) T K G F R A L n) (nI w) x (nI i) (nI p) T K G F R A L := fun hs => br_t rfl (nm_r (nI_1 i) (ih x (hp_BI_skip hI (fun q hq eq => Or.inr ⟨a, da, dp, ex, ha, ed, hda, by rw [only q hq eq]; exact edp, dlt, by rw [only q hq eq]; exact hs⟩))))
          have tk : (dp < da ∨ (dp = da ∧ p ≤ a)) → wY_findWay_89 post (wY_findWay_11 post (nI w) T K G F R A L n) (nI w) x (nI i) (nI p) T K G F R A L := fun hs => take (Or.inr ⟨a, da, ex, ha, ed, hda, hs⟩)
          rw [ex] at skip tk ⊢
          refine br_f (nI_pos (by omega)) ⟨vp, va, ?_⟩
          rw [ca, edp, ed]
          refine pk_lt dp da (fun lt => tk (Or.inl lt)) (fun ge => ⟨vp, va, pk_eq dp da (fun eq => pk_le a p (fun le => skip (Or.inr ⟨eq.symm, le⟩)) (fun lt => tk (Or.inr ⟨eq, by omega⟩))) (fun ne => skip (Or.inl (by omega)))⟩)
theorem ya_way {post : Int32 → SY → Prop} (ok : hp_ok P F R) (hT : hp_T P T) (hw : w < 3) (ho : o < 24) {d : Nat} (hd : d ≤ 23) (h1 : ∃ p, bt (hp_rts R w) p = true ∧ hp_wk F w (P w) d p o) (h2 : ∀ p j, bt (hp_rts R w) p = true → hp_wk F w (P w) j p o → d ≤ j) (h : ∀ B M, (∀ j, j ≤ d → M j = hp_pt F R w (P w) o d j) → post (nI (d + 1)) (T, K, G, F, R, B, M)) : wpY_findWay post (T, K, G, F, R, A, L) (nI w) (nI o) := by
  unfold wpY_findWay
  dsimp only
  refine ya_far ok hT hw ho (fun B fr => ?_)
  exact ya_way11 ok hw ho hd h1 h2 fr (h B)
end
