/-! depth and way -/
section
variable {P T K G F R A L : Nat → Int32} {w o : Nat}
/-- X's least number of references is the one that walks have -/
theorem hp_dep (ok : hp_ok P F R) (hw : w < 3) {d : Nat} (hd : d ≤ 23) (hb : bt (hp_it F w (hp_rts R w) 0 d) o = true) (hn : ∀ j, j < d → ¬ bt (hp_it F w (hp_rts R w) 0 j) o = true) :
    bt (hp_clo F w (hp_rts R w) 0) o = true ∧ (∃ p, bt (hp_rts R w) p = true ∧ hp_wk F w (P w) d p o) ∧ ∀ p j, bt (hp_rts R w) p = true → hp_wk F w (P w) j p o → d ≤ j := by
  have al : bt (hp_clo F w (hp_rts R w) 0) o = true := by
    have := hp_it_mono hb (24 - d)
    rw [show d + (24 - d) = 24 by omega] at this
    exact this
  obtain ⟨e, he, h1, h2, h3, h4⟩ := hp_depth (Z := P w) (hp_rts_S R w) (fun i hi => hp_alive ok hw hi) al
  have : e = d := by
    rcases Nat.lt_trichotomy e d with z | z | z
    · exact absurd h1 (hn e z)
    · exact z
    · exact absurd hb (h2 d z)
  subst this
  exact ⟨al, h3, h4⟩
theorem i_vc_depth {k : Nat} {u : SX} {v : SY} (I : i_Rel k u v) (hk : k + 4 ≤ 2048) (v1 : Int32) (v2 : Int32) : wpX_depth (fun r => wpY_depth (fun r' v' => r' = r ∧ i_Rel (k + 4) u v') v v1 v2) u v1 v2 := by
  have J := I
  obtain ⟨P, K, G, F, R, T, A, L, rfl, rfl, ok, hT⟩ := I
  unfold wpX_depth wpY_depth
  dsimp only
  rcases hp_place v1 with ⟨w, hw, rfl⟩ | bad
  · refine xa_plT hw (xa_lref ok hw (fun d o hd ho e hb hn => ?_) (fun n => ?_))
    · subst e
      obtain ⟨al, h1, h2⟩ := hp_dep ok hw hd hb hn
      refine ya_plT hw (ya_isAlive ok hw (fun n => absurd ((hp_in_nI ho).mpr al) n) (fun _ => br_f (by decide) (ya_way ok hT hw ho hd h1 h2 (fun B M _ => ⟨rfl, ?_⟩))))
      exact ⟨_, _, _, _, _, _, _, _, rfl, rfl, ok, hT⟩
    · exact ya_plT hw (ya_isAlive ok hw (fun _ => br_t rfl ⟨rfl, J⟩) (fun h => absurd h n))
  · exact xa_plF bad (ya_plF bad ⟨rfl, J⟩)
theorem i_vc_way {k : Nat} {u : SX} {v : SY} (I : i_Rel k u v) (hk : k + 4 ≤ 2048) (v1 : Int32) (v2 : Int32) (v3 : Int32) : wpX_way (fun r => wpY_way (fun r' v' => r' = r ∧ i_Rel (k + 4) u v') v v1 v2 v3) u v1 v2 v3 := by
  have J := I
  obtain ⟨P, K, G, F, R, T, A, L, rfl, rfl, ok, hT⟩ := I
  unfold wpX_way wpY_way
  dsimp only
  rcases hp_place v1 with ⟨w, hw, rfl⟩ | bad
  · refine xa_plT hw (xa_lref ok hw (fun d o hd ho e hb hn => ?_) (fun n => ?_))
    · subst e
      obtain ⟨al, h1, h2⟩ := hp_dep ok hw hd hb hn
      have yes : hp_in (hp_clo F w (hp_rts R w) 0) (nI o) := (hp_in_nI ho).mpr al
      refine br_c (fun neg => ?_) (fun pos => ?_)
      · refine ya_plT hw (ya_isAlive ok hw (fun n => absurd yes n) (fun _ => br_f (by decide) (ya_way ok hT hw ho hd h1 h2 (fun B M _ => br_t neg ⟨rfl, ?_⟩))))
        exact ⟨_, _, _, _, _, _, _, _, rfl, rfl, ok, hT⟩
      · obtain ⟨i, hi, rfl⟩ := nI_of pos
        refine pk_lt i (d + 1) (fun lt => xa_rts ok hw (xa_way43 ok hw hd (i0 := i) (by omega) ?_)) (fun ge => ?_)
        · refine ya_plT hw (ya_isAlive ok hw (fun n => absurd yes n) (fun _ => br_f (by decide) (ya_way ok hT hw ho hd h1 h2 (fun B M hM => br_f pos (br_f (nI_ge lt (by omega)) ⟨vp_in_nI (by omega) (by decide), ?_, ?_⟩)))))
          · rw [nI_clamp hi]
            exact hM i (by omega)
          · exact ⟨_, _, _, _, _, _, _, _, rfl, rfl, ok, hT⟩
        · refine ya_plT hw (ya_isAlive ok hw (fun n => absurd yes n) (fun _ => br_f (by decide) (ya_way ok hT hw ho hd h1 h2 (fun B M _ => br_f pos (br_t (nI_le ge hi) ⟨rfl, ?_⟩)))))
          exact ⟨_, _, _, _, _, _, _, _, rfl, rfl, ok, hT⟩
    · refine br_c (fun neg => ?_) (fun pos => br_f (fun z => ?_) ?_)
      · exact ya_plT hw (ya_isAlive ok hw (fun _ => br_t rfl (br_t neg ⟨rfl, J⟩)) (fun h => absurd h n))
      · rw [Int32.lt_iff_toInt_lt] at z pos
        have a : (-3 : Int32).toInt = -3 := by decide
        have b : (0 : Int32).toInt = 0 := by decide
        omega
      · exact ya_plT hw (ya_isAlive ok hw (fun _ => br_t rfl (br_f pos (br_t (Int32.not_lt.mp pos) ⟨rfl, J⟩))) (fun h => absurd h n))
  · exact xa_plF bad (ya_plF bad ⟨rfl, J⟩)
end
