/-! collect, sweep, leaked -/
section
variable {P T K G F R A L : Nat → Int32}
def hp_lz (T : Nat → Int32) (s : Int32) (n : Nat) : Nat → Int32 := fun j => if j < n then (if T j = 0 then 0 else if bt s j = true then 0 else 1) else T j
theorem hp_lz_0 (T : Nat → Int32) (s : Int32) : hp_lz T s 0 = T := funext fun j => if_neg (by omega)
theorem hp_lz_hi {s : Int32} {n j : Nat} (h : n ≤ j) : hp_lz T s n j = T j := if_neg (by omega)
theorem hp_lz_lo {s : Int32} {n j : Nat} (h : j < n) : hp_lz T s n j = if T j = 0 then 0 else if bt s j = true then 0 else 1 := if_pos h
theorem hp_lz_s {s x : Int32} {n : Nat} (h : x = if T n = 0 then 0 else if bt s n = true then 0 else 1) : upd (hp_lz T s n) n x = hp_lz T s (n + 1) := by
  funext j
  by_cases z : j = n
  · subst z
    rw [pk_us, hp_lz_lo (by omega), h]
  · rw [pk_un z]
    by_cases y : j < n
    · rw [hp_lz_lo y, hp_lz_lo (by omega)]
    · rw [hp_lz_hi (by omega), hp_lz_hi (by omega)]
theorem ya_lose {post : SY → Prop} {s : Int32} (h : post (hp_lz T s 24, K, G, F, R, A, L)) : wpY_lose post (T, K, G, F, R, A, L) s := by
  refine loop_0 (fun n i t => wY_lose_2 post s n (nI i) t K G F R A L) (fun i t => t = hp_lz T s i) 24 T (hp_lz_0 T s).symm ?_ ?_
  · intro n t e; cases e
    exact br_t hp_le24 h
  · intro n i t hi e ih; cases e
    have hv : vp_in (nI i) 72 := vp_in_nI (by omega) (by decide)
    have ec : (nI i).toNatClampNeg = i := nI_clamp (by omega)
    refine br_f (hp_n24 hi) ⟨hv, ?_⟩
    rw [ec, hp_lz_hi (Nat.le_refl i)]
    refine br_c (fun z => ⟨hv, nm_r (hp_lz_s ?_) (nm_r (nI_1 i) (ih _ rfl))⟩) (fun z => br_c (fun y => ⟨hv, nm_r (hp_lz_s ?_) (nm_r (nI_1 i) (ih _ rfl))⟩) (fun y => ⟨hv, nm_r (hp_lz_s ?_) (nm_r (nI_1 i) (ih _ rfl))⟩))
    · rw [if_pos z]; exact hp_vb0
    · rw [if_neg z, if_neg (by rw [(hp_sh0 s (by omega)).mp y]; decide)]; exact hp_vb1
    · rw [if_neg z, if_pos (by
        cases e : bt s i
        · exact absurd ((hp_sh0 s (by omega)).mpr e) y
        · rfl)]
      exact hp_vb0
/-- those of g go -/
theorem hp_lose_rel (ok : hp_ok P F R) (hT : hp_T P T) {g : Int32} (h2 : ∀ i, bt (hp_rts R 0) i = true → bt (P 0 &&& (g ^^^ (-1))) i = true) (h3 : ∀ a p, bt (P 0 &&& (g ^^^ (-1))) a = true → hp_E F 0 a p → p < 24 → bt (P 0 &&& (g ^^^ (-1))) p = true) :
    hp_ok (upd P 0 (P 0 &&& (g ^^^ (-1)))) F R ∧ hp_T (upd P 0 (P 0 &&& (g ^^^ (-1)))) (hp_lz T g 24) := by
  refine ⟨hp_ok_cut ok (fun i h => (hp_andn_iff.mp h).1) h2 h3, hp_T_upd hT (w := 0) (by omega) (fun o ho => ?_) (fun j hj => hp_lz_hi (by omega))⟩
  rw [show 24 * 0 + o = o by omega, hp_lz_lo ho, hp_T0 hT ho]
  by_cases a : bt (P 0) o = true
  · by_cases b : bt g o = true
    · rw [if_pos a, if_neg (by decide), if_pos b, if_neg (fun z => (hp_andn_iff.mp z).2 b)]
    · rw [if_pos a, if_neg (by decide), if_neg b, if_pos (hp_andn_iff.mpr ⟨a, b⟩)]
  · rw [if_neg a, if_pos rfl, if_neg (fun z => a (hp_andn_iff.mp z).1)]
theorem hp_root_P (ok : hp_ok P F R) {w : Nat} (hw : w < 3) {i : Nat} (h : bt (hp_rts R w) i = true) : bt (P w) i = true :=
  hp_alive ok hw (b := 0) (hp_clo_start h hp_0)
/-- of those there only s stay -/
theorem hp_stay {p s : Int32} {i : Nat} : bt (p &&& ((p &&& (s ^^^ (-1))) ^^^ (-1))) i = true ↔ bt p i = true ∧ bt s i = true := by
  rw [hp_andn_iff, hp_andn_iff]
  by_cases a : bt s i = true
  · exact ⟨fun h => ⟨h.1, a⟩, fun h => ⟨h.1, fun z => z.2 a⟩⟩
  · exact ⟨fun h => absurd ⟨h.1, a⟩ h.2, fun h => absurd h.2 a⟩
theorem i_vc_collect {k : Nat} {u : SX} {v : SY} (I : i_Rel k u v) (hk : k + 4 ≤ 2048) : wpX_collect (fun r u' => wpY_collect (fun r' v' => r' = r ∧ i_Rel (k + 4) u' v') v) u := by
  obtain ⟨P, K, G, F, R, T, A, L, rfl, rfl, ok, hT⟩ := I
  have key := hp_lose_rel ok hT (g := P 0 &&& (hp_clo F 0 (hp_rts R 0) 0 ^^^ (-1))) (fun i h => hp_stay.mpr ⟨hp_root_P ok (by omega) h, hp_clo_start h hp_0⟩) (fun a p h he hp => by
    rw [hp_stay] at h ⊢
    have := hp_clo_step (hp_rts_S R 0) h.2 he hp hp_0
    exact ⟨hp_alive ok (by omega) this, this⟩)
  unfold wpX_collect wpY_collect
  dsimp only
  refine xa_alive (w := 0) ok (by omega) (nm_e (nm_e (xa_count (ya_all ok hT (ya_live (w := 0) ok (by omega) (nm_e (ya_lose (ya_bits ⟨rfl, ?_⟩))))))))
  exact ⟨_, _, _, _, _, _, _, _, rfl, rfl, key.1, key.2⟩
theorem ya_loose_step {post : Int32 → Prop} {J : Int32 → Int32 → Prop} (ok : hp_ok P F R) {t : Int32} (h : J (t &&& (hp_rts R 0 ||| hp_suc F 0 t)) t) : ∃ n, wY_loose_19 post J t t T K G F R A L n 0 0 := by
  refine loop_0 (fun n i x => wY_loose_19 post J t t T K G F R A L n x (nI i)) (fun i x => hp_rI R 0 i x) 4 0 hp_rI_0 ?_ ?_
  · intro n x hI
    rw [hp_rI_4 hI]
    refine br_t hp_le4 ?_
    refine loop_0 (fun n i x => wY_loose_60 post J t t T K G F R A L n x (nI i)) (fun i x => hp_sI F 0 t (hp_rts R 0) i x) 96 (hp_rts R 0) hp_sI_0 ?_ ?_
    · intro n x hI
      rw [hp_sI_96 hI]
      exact br_t hp_le96 (nm_e h)
    · intro n i x hi hI ih
      have e0 : 96 * 0 + i = i := by omega
      refine br_f (hp_n96 hi) ⟨hp_4ne, ?_⟩
      rw [hp_div4 hi]
      refine br_c (fun hb => ⟨vp_in_nI (by omega) (by decide), ?_⟩) (fun hb => br_t hp_m1neg (nm_r (nI_1 i) (ih _ (hp_sI_skip hI (fun z => absurd ((hp_shI t (by omega)).mpr z) hb)))))
      rw [nI_clamp (by omega : i < 2 ^ 31)]
      have hb' := (hp_shI t (by omega : i / 4 < 32)).mp hb
      rcases ok.2.1 i (by omega) with z | ⟨p, hp, e⟩
      · rw [z]
        exact br_t hp_m1neg (nm_r (nI_1 i) (ih _ (hp_sI_skip hI (fun _ => by rw [e0]; exact z))))
      · rw [e]
        exact br_f (nI_pos (by omega)) (nm_e (nm_r (nI_1 i) (ih _ (hp_sI_add hI hp hb' (by rw [e0]; exact e)))))
  · intro n i x hi hI ih
    have e0 : 4 * 0 + i = i := by omega
    have hv : vp_in (nI i) 12 := vp_in_nI (by omega) (by decide)
    refine br_f (hp_n4 hi) ⟨hv, ?_⟩
    rw [nI_clamp (by omega : i < 2 ^ 31)]
    have o := ok.2.2.1 0 i (by omega) hi
    rw [e0] at o
    rcases o with z | ⟨p, hp, e, _⟩
    · rw [z]
      exact br_t hp_m1neg (nm_r (nI_1 i) (ih _ (hp_rI_skip hI (by rw [e0]; exact z))))
    · rw [e]
      exact br_f (nI_pos (by omega)) ⟨hv, nm_e (nm_r (nI_1 i) (ih _ (hp_rI_add hI hp (by rw [e0]; exact e))))⟩
theorem ya_loose {post : Int32 → Prop} (ok : hp_ok P F R) (hT : hp_T P T) (h : post (P 0 &&& (hp_sw F (hp_rts R 0) (P 0) 24 ^^^ (-1)))) : wpY_loose post (T, K, G, F, R, A, L) := by
  have hP := ok.1 0 (by omega)
  unfold wpY_loose
  dsimp only
  refine ya_all ok hT ?_
  refine loop_m (σ := Int32 × Int32) (fun n q => wY_loose_7 post T K G F R A L n q.1 q.2) (fun q => ∃ k, q.1 = hp_sw F (hp_rts R 0) (P 0) k ∧ (q.2 = q.1 → hp_sw F (hp_rts R 0) (P 0) (k + 1) = hp_sw F (hp_rts R 0) (P 0) k)) (fun q => if q.2 = q.1 then 0 else 1 + hp_c q.1 24) ?_ (P 0, -1) ⟨0, rfl, fun e => absurd e (hp_S_m1 hP)⟩
  rintro n ⟨t, t0⟩ ⟨k, h1, h2⟩ ih
  dsimp only at h1 h2
  subst h1
  refine br_c (fun e => ?_) (fun ne => ?_)
  · refine ya_all ok hT ?_
    dsimp only
    rw [hp_sw_end hP (h2 e)]
    exact h
  · have next : wY_loose_7 post T K G F R A L n (hp_sw F (hp_rts R 0) (P 0) (k + 1)) (hp_sw F (hp_rts R 0) (P 0) k) := by
      refine ih (_, _) ⟨k + 1, rfl, fun e => hp_sw_stab _ _ _ k (Eq.symm e)⟩ ?_
      show (if hp_sw F (hp_rts R 0) (P 0) k = hp_sw F (hp_rts R 0) (P 0) (k + 1) then 0 else 1 + hp_c (hp_sw F (hp_rts R 0) (P 0) (k + 1)) 24) < (if t0 = hp_sw F (hp_rts R 0) (P 0) k then 0 else 1 + hp_c (hp_sw F (hp_rts R 0) (P 0) k) 24)
      have ne' : ¬ t0 = hp_sw F (hp_rts R 0) (P 0) k := ne
      rw [if_neg ne']
      by_cases z : hp_sw F (hp_rts R 0) (P 0) k = hp_sw F (hp_rts R 0) (P 0) (k + 1)
      · rw [if_pos z]; omega
      · rw [if_neg z]
        have := hp_sw_lt (F := F) (r := hp_rts R 0) hP (k := k) (fun y => z y.symm)
        omega
    exact ya_loose_step ok next
theorem i_vc_sweep {k : Nat} {u : SX} {v : SY} (I : i_Rel k u v) (hk : k + 4 ≤ 2048) : wpX_sweep (fun r u' => wpY_sweep (fun r' v' => r' = r ∧ i_Rel (k + 4) u' v') v) u := by
  obtain ⟨P, K, G, F, R, T, A, L, rfl, rfl, ok, hT⟩ := I
  have key := hp_lose_rel ok hT (g := P 0 &&& (hp_sw F (hp_rts R 0) (P 0) 24 ^^^ (-1))) (fun i h => hp_stay.mpr ⟨hp_root_P ok (by omega) h, hp_sw_root h (hp_root_P ok (by omega) h) 24⟩) (fun a p h he hp => by
    rw [hp_stay] at h ⊢
    have := hp_step_P ok (by omega) hp h.1 he
    exact ⟨this, hp_sw_ref he hp this 24 h.2⟩)
  unfold wpX_sweep wpY_sweep
  dsimp only
  refine xa_left ok (nm_e (nm_e (xa_count (ya_loose ok hT (ya_lose (ya_bits ⟨rfl, ?_⟩))))))
  exact ⟨_, _, _, _, _, _, _, _, rfl, rfl, key.1, key.2⟩
theorem i_vc_leaked {k : Nat} {u : SX} {v : SY} (I : i_Rel k u v) (hk : k + 4 ≤ 2048) : wpX_leaked (fun r => wpY_leaked (fun r' => r' = r ∧ i_Rel (k + 4) u v) v) u := by
  have J := I
  obtain ⟨P, K, G, F, R, T, A, L, rfl, rfl, ok, hT⟩ := I
  unfold wpX_leaked wpY_leaked
  dsimp only
  refine xa_left ok (xa_alive (w := 0) ok (by omega) (nm_e (xa_count (ya_all ok hT (ya_live (w := 0) ok (by omega) (ya_loose ok hT (ya_bits ⟨?_, J⟩)))))))
  refine congrArg (fun s => hp_cn s 24) (hp_ext fun i => ?_)
  rw [hp_andn_iff, hp_andn_iff, hp_andn_iff, hp_andn_iff]
  have sub := hp_sw_P F (hp_rts R 0) (P 0) 24 i
  constructor
  · rintro ⟨⟨h1, h2⟩, h3⟩
    exact ⟨Classical.byContradiction fun z => h3 ⟨h1, z⟩, h2⟩
  · rintro ⟨h1, h2⟩
    exact ⟨⟨sub h1, h2⟩, fun z => z.2 h1⟩
end
