/-! a new object; root, field, make -/
section
variable {P T K G F R A L : Nat → Int32}
theorem xa_init {post : SX → Prop} (h : post (fun _ => 0, fun _ => 0, fun _ => 0, fun _ => 0, hp_fl (fun _ => 0) 0 12)) : wpX_init post := by
  refine loop_0 (fun n i r => wX_init_46 post n (nI i) (fun _ => 0) (fun _ => 0) (fun _ => 0) (fun _ => 0) r) (fun i r => r = hp_fl (fun _ => 0) 0 i) 12 (fun _ => 0) (hp_fl_0 _ 0).symm ?_ ?_
  · intro n r e; cases e
    exact br_t (by decide +kernel : (12 : Int32) ≤ nI 12) h
  · intro n i r hi e ih; cases e
    have s := hp_fl_s (fun _ => 0) 0 i
    rw [Nat.zero_add] at s
    refine br_f (nI_ge (b := 12) hi (by decide)) ⟨vp_in_nI hi (by decide), nm_r ?_ (nm_r (nI_1 i) (ih _ rfl))⟩
    rw [nI_clamp (by omega : i < 2 ^ 31)]
    exact s
theorem ya_init {post : SY → Prop} (h : post (fun _ => 0, fun _ => 0, fun _ => 0, fun _ => 0, hp_fl (fun _ => 0) 0 12, fun _ => 0, fun _ => 0)) : wpY_init post := by
  refine loop_0 (fun n i r => wY_init_63 post n (nI i) (fun _ => 0) (fun _ => 0) (fun _ => 0) (fun _ => 0) r (fun _ => 0) (fun _ => 0)) (fun i r => r = hp_fl (fun _ => 0) 0 i) 12 (fun _ => 0) (hp_fl_0 _ 0).symm ?_ ?_
  · intro n r e; cases e
    exact br_t (by decide +kernel : (12 : Int32) ≤ nI 12) h
  · intro n i r hi e ih; cases e
    have s := hp_fl_s (fun _ => 0) 0 i
    rw [Nat.zero_add] at s
    refine br_f (nI_ge (b := 12) hi (by decide)) ⟨vp_in_nI hi (by decide), nm_r ?_ (nm_r (nI_1 i) (ih _ rfl))⟩
    rw [nI_clamp (by omega : i < 2 ^ 31)]
    exact s
theorem i_vc0 : wpX_init (fun u => wpY_init (fun v => i_Rel 0 u v)) :=
  xa_init (ya_init ⟨_, _, _, _, _, _, _, _, rfl, rfl, hp_ok_0, hp_T_0⟩)
theorem hp_ref_iff {s x : Int32} : hp_ref s x ↔ x = -1 ∨ hp_in s x := Iff.rfl
theorem xa_ref {C B : Prop} {x : Int32} (h0 : ¬ hp_ref (P 0) x → C) (h1 : hp_ref (P 0) x → B) : wpX_canBeReferredTo (fun r => (r = 0 → C) ∧ (¬ r = 0 → B)) (P, K, G, F, R) x := by
  refine br_c (fun e => br_f (by decide) (h1 (Or.inl e))) (fun ne => xa_ifG (fun h => br_t rfl (h0 (fun z => ?_))) (fun h => br_f (by decide) (h1 (Or.inr h))))
  exact z.elim ne h
theorem ya_isObject {post : Int32 → Prop} (hT : hp_T P T) {x : Int32} (h0 : ¬ hp_in (P 0) x → post 0) (h1 : hp_in (P 0) x → post 1) : wpY_isObject post (T, K, G, F, R, A, L) x := by
  have bad : (x < 0 ∨ nI 24 ≤ x) → ¬ hp_in (P 0) x := by
    rintro h ⟨j, hj, e, _⟩
    rw [e] at h
    rcases h with h | h
    · exact nI_pos (by omega) h
    · exact nI_ge hj (by decide) h
  unfold wpY_isObject
  dsimp only
  rcases pk_ix x (n := 24) (by decide) with h | h | ⟨j, hj, e⟩
  · refine ya_out (n := 23) (by decide) (Or.inl h) ?_
    exact br_t rfl (h0 (bad (Or.inl h)))
  · refine ya_out (n := 23) (by decide) (Or.inr h) ?_
    exact br_t rfl (h0 (bad (Or.inr h)))
  · subst e
    refine ya_in (j := j) (n := 23) (by omega) (by decide) ?_
    refine br_f (by decide) ⟨vp_in_nI (by omega) (by decide), ?_⟩
    rw [nI_clamp (by omega : j < 2 ^ 31), hp_T0 hT hj]
    by_cases hb : bt (P 0) j = true
    · rw [if_pos hb]
      exact br_f (by decide) (h1 ((hp_in_nI hj).mpr hb))
    · rw [if_neg hb]
      exact br_t rfl (h0 (fun z => hb ((hp_in_nI hj).mp z)))
theorem i_vc_root {k : Nat} {u : SX} {v : SY} (I : i_Rel k u v) (hk : k + 4 ≤ 2048) (v1 : Int32) (v2 : Int32) : wpX_root (fun r u' => wpY_root (fun r' v' => r' = r ∧ i_Rel (k + 4) u' v') v v1 v2) u v1 v2 := by
  have J := I
  obtain ⟨P, K, G, F, R, T, A, L, rfl, rfl, ok, hT⟩ := I
  unfold wpX_root wpY_root
  dsimp only
  rcases hp_four v1 with ⟨r, hr, rfl⟩ | bad
  · refine xa_rtT hr (xa_ref (fun n => ?_) (fun h => ?_))
    · refine ya_4T hr (br_f (fun e => n (Or.inl e)) (ya_isObject hT (fun _ => br_t rfl ⟨rfl, J⟩) (fun h => absurd (Or.inr h) n)))
    · have hv : vp_in (nI r) 12 := vp_in_nI (by omega) (by decide)
      have ec : (nI r).toNatClampNeg = r := nI_clamp (by omega)
      have fin : wY_root_28 (fun r' v' => r' = R r ∧ i_Rel (k + 4) (P, K, G, F, upd R r v2) v') (nI r) v2 T K G F R A L := by
        refine ⟨hv, nm_e ⟨hv, nm_e ⟨?_, ?_⟩⟩⟩
        · rw [ec]
        · rw [ec]
          exact ⟨_, _, _, _, _, _, _, _, rfl, rfl, hp_ok_root ok hr h, hT⟩
      refine ⟨hv, nm_r (congrArg R ec) ⟨hv, nm_r (congrArg (fun j => upd R j v2) ec) ?_⟩⟩
      refine ya_4T hr (br_c (fun _ => fin) (fun ne => ya_isObject hT (fun n => ?_) (fun _ => br_f (by decide) fin)))
      exact absurd (h.resolve_left ne) n
  · exact xa_rtF bad (ya_4F bad ⟨rfl, J⟩)
theorem i_vc_field {k : Nat} {u : SX} {v : SY} (I : i_Rel k u v) (hk : k + 4 ≤ 2048) (v1 : Int32) (v2 : Int32) (v3 : Int32) : wpX_field (fun r u' => wpY_field (fun r' v' => r' = r ∧ i_Rel (k + 4) u' v') v v1 v2 v3) u v1 v2 v3 := by
  have J := I
  obtain ⟨P, K, G, F, R, T, A, L, rfl, rfl, ok, hT⟩ := I
  unfold wpX_field wpY_field
  dsimp only
  rcases hp_four v2 with ⟨f, hf, rfl⟩ | bad
  · refine br_f (nI_pos (by omega)) (br_t (nI_lt (b := 4) hf (by decide)) (xa_ifG (fun n => ?_) (fun ho => ?_)))
    · exact ya_4T hf (ya_isObject hT (fun _ => br_t rfl ⟨rfl, J⟩) (fun h => absurd h n))
    · refine xa_ref (fun n => ?_) (fun h => ?_)
      · exact ya_4T hf (ya_isObject hT (fun n => absurd ho n) (fun _ => br_f (by decide) (br_f (fun e => n (Or.inl e)) (ya_isObject hT (fun _ => br_t rfl ⟨rfl, J⟩) (fun h => absurd (Or.inr h) n)))))
      · have ho' := ho
        obtain ⟨o, ho24, rfl, hb⟩ := ho'
        have hx : vp_in (nI o * 4 + nI f) 288 := pk_in (4 * o + f) 288 (by omega) (hp_ixr o f)
        have ex : (nI o * 4 + nI f).toNatClampNeg = 4 * o + f := pk_cl (4 * o + f) (hp_ixr o f)
        have hy : vp_in (4 * nI o + nI f) 288 := pk_in (4 * o + f) 288 (by omega) (hp_ixR o f)
        have ey : (4 * nI o + nI f).toNatClampNeg = 4 * o + f := pk_cl (4 * o + f) (hp_ixR o f)
        have fin : wY_field_36 (fun r' v' => r' = F (4 * o + f) ∧ i_Rel (k + 4) (P, K, G, upd F (4 * o + f) v3, R) v') (nI o) (nI f) v3 T K G F R A L := by
          refine ⟨hy, nm_e ⟨hy, nm_e ⟨?_, ?_⟩⟩⟩
          · rw [ey]
          · rw [ey]
            exact ⟨_, _, _, _, _, _, _, _, rfl, rfl, hp_ok_field ok (by omega) h, hT⟩
        refine ⟨hx, nm_r (congrArg F ex) ⟨hx, nm_r (congrArg (fun j => upd F j v3) ex) ?_⟩⟩
        refine ya_4T hf (ya_isObject hT (fun n => absurd ho n) (fun _ => br_f (by decide) (br_c (fun _ => fin) (fun ne => ya_isObject hT (fun n => ?_) (fun _ => br_f (by decide) fin)))))
        exact absurd (h.resolve_left ne) n
  · refine br_c (fun _ => ya_4F bad ⟨rfl, J⟩) (fun n => br_f ?_ (ya_4F bad ⟨rfl, J⟩))
    intro z
    exact Int32.not_lt.mpr (bad.resolve_left n) z
theorem xa_make81 {post : Int32 → SX → Prop} {r a : Nat} (hr : r < 4) (ha : a < 24) (h : post (nI a) (P, K, G, hp_fl F (4 * a) 4, upd R r (nI a))) : ∃ n, wX_make_81 post (nI r) (nI a) n 0 P K G F R := by
  refine loop_0 (fun n i f => wX_make_81 post (nI r) (nI a) n (nI i) P K G f R) (fun i f => f = hp_fl F (4 * a) i) 4 F (hp_fl_0 _ _).symm ?_ ?_
  · intro n f e; cases e
    refine br_t hp_le4 ⟨vp_in_nI (by omega) (by decide), nm_r (congrArg (fun j => upd R j (nI a)) (nI_clamp (by omega : r < 2 ^ 31))) h⟩
  · intro n i f hi e ih; cases e
    refine br_f (hp_n4 hi) ⟨pk_in (4 * a + i) 288 (by omega) (hp_ixr a i), nm_r ?_ (nm_r (nI_1 i) (ih _ rfl))⟩
    rw [pk_cl (4 * a + i) (hp_ixr a i)]
    exact hp_fl_s F (4 * a) i
theorem ya_make96 {post : Int32 → SY → Prop} {r a : Nat} (hr : r < 4) (ha : a < 24) (h : post (nI a) (T, K, G, hp_fl F (4 * a) 4, upd R r (nI a), A, L)) : ∃ n, wY_make_96 post (nI r) (nI a) n 0 T K G F R A L := by
  refine loop_0 (fun n i f => wY_make_96 post (nI r) (nI a) n (nI i) T K G f R A L) (fun i f => f = hp_fl F (4 * a) i) 4 F (hp_fl_0 _ _).symm ?_ ?_
  · intro n f e; cases e
    refine br_t hp_le4 ⟨vp_in_nI (by omega) (by decide), nm_r (congrArg (fun j => upd R j (nI a)) (nI_clamp (by omega : r < 2 ^ 31))) h⟩
  · intro n i f hi e ih; cases e
    refine br_f (hp_n4 hi) ⟨pk_in (4 * a + i) 288 (by omega) (hp_ixR a i), nm_r ?_ (nm_r (nI_1 i) (ih _ rfl))⟩
    rw [pk_cl (4 * a + i) (hp_ixR a i)]
    exact hp_fl_s F (4 * a) i
/-- the reference's scan for the least number that no object has -/
theorem ya_make36 {post : Int32 → SY → Prop} {x1 x2 x3 : Int32} (hT : hp_T P T) {a : Nat} (ha : a ≤ 24) (hlo : ∀ i, i < a → bt (P 0) i = true) (hhi : a < 24 → ¬ bt (P 0) a = true) (h : wY_make_59 post x1 x2 x3 (nI a) T K G F R A L) : ∃ n, wY_make_36 post x1 x2 x3 T K G F R A L n 0 := by
  refine loop_0 (fun n i (_ : Unit) => wY_make_36 post x1 x2 x3 T K G F R A L n (nI i)) (fun _ _ => True) a () trivial ?_ ?_
  · intro n _ _
    rcases Nat.lt_or_ge a 24 with z | z
    · refine br_f (hp_n24 z) ⟨vp_in_nI (by omega) (by decide), ?_⟩
      rw [nI_clamp (by omega : a < 2 ^ 31), hp_T0 hT z, if_neg (hhi z)]
      exact br_t rfl h
    · exact br_t (nI_le (a := 24) z (by omega)) h
  · intro n i _ hi _ ih
    refine br_f (hp_n24 (by omega)) ⟨vp_in_nI (by omega) (by decide), ?_⟩
    rw [nI_clamp (by omega : i < 2 ^ 31), hp_T0 hT (by omega), if_pos (hlo i hi)]
    exact br_f (by decide) (nm_r (nI_1 i) (ih () trivial))
theorem hp_T_make (hT : hp_T P T) {a : Nat} (ha : a < 24) : hp_T (upd P 0 (P 0 ||| hp_o a)) (upd T a 1) := by
  refine hp_T_upd hT (w := 0) (by omega) (fun o ho => ?_) (fun j hj => pk_un (by omega))
  rw [show 24 * 0 + o = o by omega]
  by_cases z : o = a
  · subst z
    rw [pk_us, if_pos ((hp_or_one (by omega)).mpr (Or.inr rfl))]
  · rw [pk_un z, hp_T0 hT ho]
    by_cases b : bt (P 0) o = true
    · rw [if_pos b, if_pos ((hp_or_one (by omega)).mpr (Or.inl b))]
    · rw [if_neg b, if_neg (fun y => ((hp_or_one (by omega)).mp y).elim b z)]
theorem i_vc_make {k : Nat} {u : SX} {v : SY} (I : i_Rel k u v) (hk : k + 4 ≤ 2048) (v1 : Int32) (v2 : Int32) (v3 : Int32) : wpX_make (fun r u' => wpY_make (fun r' v' => r' = r ∧ i_Rel (k + 4) u' v') v v1 v2 v3) u v1 v2 v3 := by
  have J := I
  obtain ⟨P, K, G, F, R, T, A, L, rfl, rfl, ok, hT⟩ := I
  unfold wpX_make wpY_make
  dsimp only
  rcases hp_four v1 with ⟨r, hr, rfl⟩ | bad
  · rcases hp_four v2 with ⟨c, hc, rfl⟩ | bad
    · refine xa_rtT hr (xa_kdT hc (br_c (fun z => ?_) (fun z => br_c (fun y => ?_) (fun y => ?_))))
      · exact ya_4T hr (ya_4T hc (br_t z (br_t rfl ⟨rfl, J⟩)))
      · have not : ∀ i, i < 24 → (bt (P 0 ^^^ (-1)) i = true ↔ ¬ bt (P 0) i = true) := fun i hi => by
          rw [hp_not (P 0) (by omega)]
          cases bt (P 0) i <;> decide
        refine xa_least ?_
        rcases hp_ls_cases (P 0 ^^^ (-1)) with ⟨e, full⟩ | ⟨a, ha, e, hb, hc'⟩
        · rw [e]
          refine br_t rfl (ya_4T hr (ya_4T hc (br_f z (br_f (Int32.not_lt.mpr y) (br_f (by decide) (ya_make36 hT (a := 24) (Nat.le_refl _) (fun i hi => Classical.byContradiction fun q => full i hi ((not i hi).mpr q)) (fun q => absurd q (by omega)) ?_))))))
          exact br_t rfl ⟨rfl, J⟩
        · rw [e]
          have hv : vp_in (nI a) 72 := vp_in_nI (by omega) (by decide)
          have ec : (nI a).toNatClampNeg = a := nI_clamp (by omega)
          refine br_f (hp_nI_m1 ha) (nm_e ⟨hv, nm_e ⟨hv, nm_e (xa_make81 hr ha (ya_4T hr (ya_4T hc (br_f z (br_f (Int32.not_lt.mpr y) (br_f (by decide) (ya_make36 hT (a := a) (by omega) (fun i hi => Classical.byContradiction fun q => hc' i hi ((not i (by omega)).mpr q)) (fun _ => (not a ha).mp hb) ?_)))))))⟩⟩)
          refine br_f (fun q => ?_) ⟨hv, nm_e ⟨hv, nm_e ⟨hv, nm_e (ya_make96 hr ha ⟨rfl, ?_⟩)⟩⟩⟩
          · have : nI a = nI 24 := q
            rw [nI_eq (by omega) (by omega)] at this
            omega
          · rw [ec]
            exact ⟨_, _, _, _, _, _, _, _, rfl, rfl, hp_ok_make ok ha hr, hp_T_make hT ha⟩
      · refine ya_4T hr (ya_4T hc (br_f z (br_t ?_ (br_t rfl ⟨rfl, J⟩))))
        exact Int32.not_le.mp y
    · exact xa_rtT hr (xa_kdF bad (ya_4T hr (ya_4F bad ⟨rfl, J⟩)))
  · exact xa_rtF bad (ya_4F bad ⟨rfl, J⟩)
end
