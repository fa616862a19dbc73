/-! dump -/
section
variable {P T K G F R A L : Nat → Int32} {w : Nat}
theorem xa_dump122 {post : Int32 → SX → Prop} {s : Int32} (h0 : 0 < w) (hw : w < 3) (h : post (hp_cn s 24) (P, K, G, F, hp_cp R (4 * w) 4)) : ∃ n, wX_dump_122 post (nI w) s n 0 P K G F R := by
  refine loop_0 (fun n i r => wX_dump_122 post (nI w) s n (nI i) P K G F r) (fun i r => r = hp_cp R (4 * w) i) 4 R (hp_cp_0 _ _).symm ?_ ?_
  · intro n r e; cases e
    exact br_t hp_le4 (xa_count h)
  · intro n i r hi e ih; cases e
    refine br_f (hp_n4 hi) ⟨vp_in_nI (by omega) (by decide), pk_in (4 * w + i) 12 (by omega) (hp_ixr w i), nm_r ?_ (nm_r (nI_1 i) (ih _ rfl))⟩
    rw [nI_clamp (by omega : i < 2 ^ 31), pk_cl (4 * w + i) (hp_ixr w i)]
    exact hp_cp_s (by omega)
theorem hp_ixd (w m : Nat) : ((nI w * 24) * 4) + nI m = nI (96 * w + m) := by
  show ((nI w * nI 24) * nI 4) + nI m = _
  rw [pk_mul, pk_mul, nI_add]
  exact congrArg nI (by omega)
theorem xa_dump85 {post : Int32 → SX → Prop} {s : Int32} (h0 : 0 < w) (hw : w < 3) (h : post (hp_cn s 24) (P, K, G, hp_cp F (96 * w) 96, hp_cp R (4 * w) 4)) : ∃ n, wX_dump_85 post (nI w) s n 0 P K G F R := by
  refine loop_0 (fun n i f => wX_dump_85 post (nI w) s n (nI i) P K G f R) (fun i f => f = hp_cp F (96 * w) i) 96 F (hp_cp_0 _ _).symm ?_ ?_
  · intro n f e; cases e
    exact br_t hp_le96 (xa_dump122 h0 hw h)
  · intro n i f hi e ih; cases e
    refine br_f (hp_n96 hi) ⟨vp_in_nI (by omega) (by decide), pk_in (96 * w + i) 288 (by omega) (hp_ixd w i), nm_r ?_ (nm_r (nI_1 i) (ih _ rfl))⟩
    rw [nI_clamp (by omega : i < 2 ^ 31), pk_cl (96 * w + i) (hp_ixd w i)]
    exact hp_cp_s (by omega)
theorem xa_dump31 {post : Int32 → SX → Prop} {s : Int32} (h0 : 0 < w) (hw : w < 3) (h : post (hp_cn s 24) (P, hp_cp K (24 * w) 24, hp_cp G (24 * w) 24, hp_cp F (96 * w) 96, hp_cp R (4 * w) 4)) : ∃ n, wX_dump_31 post (nI w) s n 0 P K G F R := by
  refine loop_0 (σ := (Nat → Int32) × (Nat → Int32)) (fun n i q => wX_dump_31 post (nI w) s n (nI i) P q.1 q.2 F R) (fun i q => q = (hp_cp K (24 * w) i, hp_cp G (24 * w) i)) 24 (K, G) (by rw [hp_cp_0, hp_cp_0]) ?_ ?_
  · intro n q e; cases e
    exact br_t hp_le24 (xa_dump85 h0 hw h)
  · intro n i q hi e ih; cases e
    have e1 : (nI i).toNatClampNeg = i := nI_clamp (by omega)
    have e2 := pk_cl (24 * w + i) (hp_ixo w i)
    have v1 : vp_in (nI i) 72 := vp_in_nI (by omega) (by decide)
    have v2 : vp_in (nI w * 24 + nI i) 72 := pk_in (24 * w + i) 72 (by omega) (hp_ixo w i)
    refine br_f (hp_n24 hi) ⟨v1, v2, nm_r (e' := hp_cp K (24 * w) (i + 1)) ?_ ⟨v1, v2, nm_r (e' := hp_cp G (24 * w) (i + 1)) ?_ (nm_r (nI_1 i) (ih (_, _) rfl))⟩⟩
    · rw [e1, e2]; exact hp_cp_s (by omega)
    · rw [e1, e2]; exact hp_cp_s (by omega)
/-- the reference's row of who is there, n of the dump's done -/
def hp_tp (T : Nat → Int32) (b : Nat) (s : Int32) (n : Nat) : Nat → Int32 := fun j => if b ≤ j ∧ j < b + n then (if bt s (j - b) = true then 1 else 0) else T j
theorem hp_tp_0 (b : Nat) (s : Int32) : hp_tp T b s 0 = T := funext fun j => if_neg (by omega)
theorem hp_tp_s {b n : Nat} {s x : Int32} (h : x = if bt s n = true then 1 else 0) : upd (hp_tp T b s n) (b + n) x = hp_tp T b s (n + 1) := by
  funext j
  by_cases z : j = b + n
  · subst z
    rw [pk_us]
    unfold hp_tp
    rw [if_pos (by omega), Nat.add_sub_cancel_left, h]
  · rw [pk_un z]
    unfold hp_tp
    by_cases y : b ≤ j ∧ j < b + n
    · rw [if_pos y, if_pos (show b ≤ j ∧ j < b + (n + 1) by omega)]
    · rw [if_neg y, if_neg (show ¬ (b ≤ j ∧ j < b + (n + 1)) by omega)]
theorem ya_dump151 {post : Int32 → SY → Prop} {s : Int32} (h0 : 0 < w) (hw : w < 3) (h : post (hp_cn s 24) (T, K, G, F, hp_cp R (4 * w) 4, A, L)) : ∃ n, wY_dump_151 post s (nI w) n 0 T K G F R A L := by
  refine loop_0 (fun n i r => wY_dump_151 post s (nI w) n (nI i) T K G F r A L) (fun i r => r = hp_cp R (4 * w) i) 4 R (hp_cp_0 _ _).symm ?_ ?_
  · intro n r e; cases e
    exact br_t hp_le4 (ya_bits h)
  · intro n i r hi e ih; cases e
    refine br_f (hp_n4 hi) ⟨vp_in_nI (by omega) (by decide), pk_in (4 * w + i) 12 (by omega) (hp_ixR w i), nm_r ?_ (nm_r (nI_1 i) (ih _ rfl))⟩
    rw [nI_clamp (by omega : i < 2 ^ 31), pk_cl (4 * w + i) (hp_ixR w i)]
    exact hp_cp_s (by omega)
theorem ya_dump101 {post : Int32 → SY → Prop} {J : Int32 → (Nat → Int32) → (Nat → Int32) → (Nat → Int32) → (Nat → Int32) → (Nat → Int32) → (Nat → Int32) → (Nat → Int32) → Prop} {s : Int32} {o : Nat} (h0 : 0 < w) (hw : w < 3) (ho : o < 24) (h : J (nI (o + 1)) T K G (hp_cp F (96 * w) (4 * (o + 1))) R A L) : ∃ n, wY_dump_101 post J s (nI w) (nI o) n 0 T K G (hp_cp F (96 * w) (4 * o)) R A L := by
  refine loop_0 (fun n i f => wY_dump_101 post J s (nI w) (nI o) n (nI i) T K G f R A L) (fun i f => f = hp_cp F (96 * w) (4 * o + i)) 4 (hp_cp F (96 * w) (4 * o)) rfl ?_ ?_
  · intro n f e; cases e
    exact br_t hp_le4 (nm_r (nI_1 o) h)
  · intro n i f hi e ih; cases e
    refine br_f (hp_n4 hi) ⟨pk_in (4 * o + i) 288 (by omega) (hp_ixR o i), pk_in (96 * w + (4 * o + i)) 288 (by omega) (hp_ixG w o i), nm_r ?_ (nm_r (nI_1 i) (ih _ rfl))⟩
    rw [pk_cl (4 * o + i) (hp_ixR o i), pk_cl (96 * w + (4 * o + i)) (hp_ixG w o i)]
    exact hp_cp_s (by omega)
theorem ya_dump26 {post : Int32 → SY → Prop} {s : Int32} (h0 : 0 < w) (hw : w < 3) (h : post (hp_cn s 24) (hp_tp T (24 * w) s 24, hp_cp K (24 * w) 24, hp_cp G (24 * w) 24, hp_cp F (96 * w) 96, hp_cp R (4 * w) 4, A, L)) : ∃ n, wY_dump_26 post s (nI w) n 0 T K G F R A L := by
  refine loop_0 (σ := (Nat → Int32) × (Nat → Int32) × (Nat → Int32) × (Nat → Int32)) (fun n i q => wY_dump_26 post s (nI w) n (nI i) q.1 q.2.1 q.2.2.1 q.2.2.2 R A L) (fun i q => q = (hp_tp T (24 * w) s i, hp_cp K (24 * w) i, hp_cp G (24 * w) i, hp_cp F (96 * w) (4 * i))) 24 (T, K, G, F) (by rw [hp_tp_0, hp_cp_0, hp_cp_0, hp_cp_0]) ?_ ?_
  · intro n q e; cases e
    exact br_t hp_le24 (ya_dump151 h0 hw h)
  · intro n i q hi e ih; cases e
    have e1 : (nI i).toNatClampNeg = i := nI_clamp (by omega)
    have e2 := pk_cl (24 * w + i) (hp_ixO w i)
    have v1 : vp_in (nI i) 72 := vp_in_nI (by omega) (by decide)
    have v2 : vp_in (24 * nI w + nI i) 72 := pk_in (24 * w + i) 72 (by omega) (hp_ixO w i)
    have body : ∀ z : Int32, vp_nar .boolean z = (if bt s i = true then 1 else 0) → wY_dump_59 post (wY_dump_26 post s (nI w) n) s (nI w) (nI i) z (24 * nI w + nI i) (hp_tp T (24 * w) s i) (hp_cp K (24 * w) i) (hp_cp G (24 * w) i) (hp_cp F (96 * w) (4 * i)) R A L := by
      intro z hz
      refine ⟨v2, nm_r (e' := hp_tp T (24 * w) s (i + 1)) ?_ ⟨v1, v2, nm_r (e' := hp_cp K (24 * w) (i + 1)) ?_ ⟨v1, v2, nm_r (e' := hp_cp G (24 * w) (i + 1)) ?_ (ya_dump101 h0 hw hi (ih (_, _, _, _) rfl))⟩⟩⟩
      · rw [e2]; exact hp_tp_s hz
      · rw [e1, e2]; exact hp_cp_s (by omega)
      · rw [e1, e2]; exact hp_cp_s (by omega)
    refine br_f (hp_n24 hi) (br_c (fun b => body 1 ?_) (fun b => body 0 ?_))
    · rw [if_pos ((hp_shI s (by omega)).mp b)]; exact hp_vb1
    · rw [if_neg (fun z => b ((hp_shI s (by omega)).mpr z))]; exact hp_vb0
theorem hp_T_dump (hT : hp_T P T) (hw : w < 3) (s : Int32) : hp_T (upd P w s) (hp_tp T (24 * w) s 24) := by
  refine hp_T_upd hT hw (fun o ho => ?_) (fun j hj => if_neg hj)
  unfold hp_tp
  rw [if_pos (by omega), Nat.add_sub_cancel_left]
theorem i_vc_dump {k : Nat} {u : SX} {v : SY} (I : i_Rel k u v) (hk : k + 4 ≤ 2048) (v1 : Int32) : wpX_dump (fun r u' => wpY_dump (fun r' v' => r' = r ∧ i_Rel (k + 4) u' v') v v1) u v1 := by
  have J := I
  obtain ⟨P, K, G, F, R, T, A, L, rfl, rfl, ok, hT⟩ := I
  unfold wpX_dump wpY_dump
  dsimp only
  rcases pk_ix v1 (n := 2) (by decide) with bad | bad | ⟨d, hd, rfl⟩
  · refine br_t bad (ya_out (n := 1) (by decide) (Or.inl bad) ?_)
    exact br_t rfl ⟨rfl, J⟩
  · have h0 : ¬ v1 < 0 := fun z => by
      rw [Int32.lt_iff_toInt_lt] at z
      rw [Int32.le_iff_toInt_le, nI_toInt (by omega)] at bad
      have : (0 : Int32).toInt = 0 := by decide
      omega
    have h1 : ¬ v1 ≤ 1 := fun z => by
      rw [Int32.le_iff_toInt_le] at z
      rw [Int32.le_iff_toInt_le, nI_toInt (by omega)] at bad
      have : (1 : Int32).toInt = 1 := by decide
      omega
    refine br_f h0 (br_f h1 (ya_out (n := 1) (by decide) (Or.inr bad) ?_))
    exact br_t rfl ⟨rfl, J⟩
  · have ew : (1 : Int32) + nI d = nI (d + 1) := by
      show nI 1 + nI d = _
      rw [nI_add]
      exact congrArg nI (by omega)
    refine br_f (nI_pos (by omega)) (br_t (nI_le (b := 1) (by omega) (by decide)) (nm_r ew (xa_alive (w := 0) ok (by omega) ⟨vp_in_nI (by omega) (by decide), nm_r (congrArg (fun j => upd P j (hp_clo F 0 (hp_rts R 0) 0)) (nI_clamp (by omega : d + 1 < 2 ^ 31))) (xa_dump31 (by omega) (by omega) ?_)⟩)))
    refine ya_in (j := d) (n := 1) (by omega) (by decide) ?_
    refine br_f (by decide) (ya_live (w := 0) ok (by omega) (nm_r (nI_1 d) (ya_dump26 (by omega) (by omega) ⟨rfl, ?_⟩)))
    exact ⟨_, _, _, _, _, _, _, _, rfl, rfl, hp_ok_dump ok (by omega) (by omega), hp_T_dump hT (by omega) _⟩
end
