/-! how the calls that change something keep the shared state -/
/-- the reference's row of who is there -/
def hp_T (P T : Nat → Int32) : Prop := ∀ w o, w < 3 → o < 24 → T (24 * w + o) = if bt (P w) o = true then 1 else 0
theorem hp_T_t {P T : Nat → Int32} (h : hp_T P T) {w o : Nat} (hw : w < 3) (ho : o < 24) (hb : bt (P w) o = true) : T (24 * w + o) = 1 := by
  rw [h w o hw ho, if_pos hb]
theorem hp_T_f {P T : Nat → Int32} (h : hp_T P T) {w o : Nat} (hw : w < 3) (ho : o < 24) (hb : ¬ bt (P w) o = true) : T (24 * w + o) = 0 := by
  rw [h w o hw ho, if_neg hb]
/-- an array with n cells from b on set to -1 -/
def hp_fl (A : Nat → Int32) (b n : Nat) : Nat → Int32 := fun j => if b ≤ j ∧ j < b + n then -1 else A j
theorem hp_fl_0 (A : Nat → Int32) (b : Nat) : hp_fl A b 0 = A := funext fun j => if_neg (by omega)
theorem hp_fl_in {A : Nat → Int32} {b n j : Nat} (h : b ≤ j ∧ j < b + n) : hp_fl A b n j = -1 := if_pos h
theorem hp_fl_out {A : Nat → Int32} {b n j : Nat} (h : ¬ (b ≤ j ∧ j < b + n)) : hp_fl A b n j = A j := if_neg h
theorem hp_fl_s (A : Nat → Int32) (b n : Nat) : upd (hp_fl A b n) (b + n) (-1) = hp_fl A b (n + 1) := by
  funext j
  by_cases z : j = b + n
  · subst z
    rw [pk_us, hp_fl_in (by omega)]
  · rw [pk_un z]
    by_cases y : b ≤ j ∧ j < b + n
    · rw [hp_fl_in y, hp_fl_in (by omega)]
    · rw [hp_fl_out y, hp_fl_out (by omega)]
section
variable {P F R T : Nat → Int32}
theorem hp_ok_0 : hp_ok (fun _ => 0) (fun _ => 0) (hp_fl (fun _ => 0) 0 12) := by
  refine ⟨fun _ _ => hp_S_0, fun _ _ => Or.inr ⟨0, by omega, nI_0.symm⟩, fun w r hw hr => Or.inl (hp_fl_in (by omega)), fun w m p _ _ _ h => absurd h hp_0⟩
theorem hp_T_0 : hp_T (fun _ => 0) (fun _ => 0) := fun w o _ _ => (if_neg hp_0).symm
theorem hp_ok_cut (ok : hp_ok P F R) {q : Int32} (h1 : ∀ i, bt q i = true → bt (P 0) i = true) (h2 : ∀ i, bt (hp_rts R 0) i = true → bt q i = true) (h3 : ∀ a p, bt q a = true → hp_E F 0 a p → p < 24 → bt q p = true) : hp_ok (upd P 0 q) F R := by
  obtain ⟨o1, o2, o3, o4⟩ := ok
  refine ⟨fun w hw => ?_, o2, fun w r hw hr => ?_, fun w m p hw hm hp => ?_⟩
  · by_cases z : w = 0
    · subst z; rw [pk_us]; exact fun i hi => o1 0 hw i (h1 i hi)
    · rw [pk_un z]; exact o1 w hw
  · by_cases z : w = 0
    · subst z; rw [pk_us]
      rcases o3 0 r hw hr with h | ⟨p, hp, e, hb⟩
      · exact Or.inl h
      · exact Or.inr ⟨p, hp, e, h2 p (hp_rts_iff.mpr ⟨hp, r, hr, e⟩)⟩
    · rw [pk_un z]; exact o3 w r hw hr
  · by_cases z : w = 0
    · subst z; rw [pk_us]
      intro ha hf
      exact h3 (m / 4) p ha ⟨m, hm, rfl, hf⟩ hp
    · rw [pk_un z]; exact o4 w m p hw hm hp
theorem hp_ok_make (ok : hp_ok P F R) {o r : Nat} (ho : o < 24) (hr : r < 4) : hp_ok (upd P 0 (P 0 ||| hp_o o)) (hp_fl F (4 * o) 4) (upd R r (nI o)) := by
  obtain ⟨o1, o2, o3, o4⟩ := ok
  refine ⟨fun w hw => ?_, fun i hi => ?_, fun w r' hw hr' => ?_, fun w m p hw hm hp => ?_⟩
  · by_cases z : w = 0
    · subst z; rw [pk_us]; exact hp_S_or (o1 0 hw) (hp_S_one ho)
    · rw [pk_un z]; exact o1 w hw
  · by_cases z : 4 * o ≤ i ∧ i < 4 * o + 4
    · exact Or.inl (hp_fl_in z)
    · rw [hp_fl_out z]; exact o2 i hi
  · by_cases z : w = 0
    · subst z; rw [pk_us]
      by_cases y : r' = r
      · subst y
        refine Or.inr ⟨o, ho, ?_, (hp_or_one (by omega)).mpr (Or.inr rfl)⟩
        rw [show 4 * 0 + r' = r' by omega, pk_us]
      · rw [pk_un (by omega)]
        rcases o3 0 r' hw hr' with h | ⟨p, hp, e, hb⟩
        · exact Or.inl h
        · exact Or.inr ⟨p, hp, e, (hp_or_one (by omega)).mpr (Or.inl hb)⟩
    · rw [pk_un z, pk_un (by omega)]; exact o3 w r' hw hr'
  · by_cases z : w = 0
    · subst z; rw [pk_us]
      intro ha hf
      by_cases y : m / 4 = o
      · rw [hp_fl_in (by omega)] at hf
        exact absurd hf.symm (hp_nI_ne (by omega))
      · rw [hp_fl_out (by omega)] at hf
        rcases (hp_or_one (by omega)).mp ha with ha | ha
        · exact (hp_or_one (by omega)).mpr (Or.inl (o4 0 m p hw hm hp ha hf))
        · exact absurd ha y
    · rw [pk_un z, hp_fl_out (by omega)]; exact o4 w m p hw hm hp
/-- p may be referred to -/
def hp_ref (s x : Int32) : Prop := x = -1 ∨ ∃ p, p < 24 ∧ x = nI p ∧ bt s p = true
theorem hp_ok_field (ok : hp_ok P F R) {i : Nat} {x : Int32} (hi : i < 96) (hx : hp_ref (P 0) x) : hp_ok P (upd F i x) R := by
  obtain ⟨o1, o2, o3, o4⟩ := ok
  refine ⟨o1, fun j hj => ?_, o3, fun w m p hw hm hp ha hf => ?_⟩
  · by_cases z : j = i
    · subst z; rw [pk_us]
      exact hx.imp id (fun ⟨p, h1, h2, _⟩ => ⟨p, h1, h2⟩)
    · rw [pk_un z]; exact o2 j hj
  · by_cases z : 96 * w + m = i
    · rw [← z, pk_us] at hf
      obtain rfl : w = 0 := by omega
      rcases hx with h | ⟨q, h1, h2, h3⟩
      · rw [h] at hf; exact absurd hf.symm (hp_nI_ne (by omega))
      · rw [h2] at hf
        rw [← hp_nI_inj h1 hp hf]; exact h3
    · rw [pk_un z] at hf; exact o4 w m p hw hm hp ha hf
theorem hp_ok_root (ok : hp_ok P F R) {r : Nat} {x : Int32} (hr : r < 4) (hx : hp_ref (P 0) x) : hp_ok P F (upd R r x) := by
  obtain ⟨o1, o2, o3, o4⟩ := ok
  refine ⟨o1, o2, fun w r' hw hr' => ?_, o4⟩
  by_cases z : 4 * w + r' = r
  · obtain rfl : w = 0 := by omega
    rw [z, pk_us]
    exact hx
  · rw [pk_un z]; exact o3 w r' hw hr'
theorem hp_ok_dump (ok : hp_ok P F R) {w : Nat} (h0 : 0 < w) (hw : w < 3) : hp_ok (upd P w (hp_clo F 0 (hp_rts R 0) 0)) (hp_cp F (96 * w) 96) (hp_cp R (4 * w) 4) := by
  have al := fun i => hp_alive ok (w := 0) (by omega) (b := 0) (i := i)
  obtain ⟨o1, o2, o3, o4⟩ := ok
  have S := hp_clo_S (F := F) (w := 0) (b := 0) (hp_rts_S R 0)
  refine ⟨fun w' hw' => ?_, fun i hi => ?_, fun w' r hw' hr => ?_, fun w' m p hw' hm hp => ?_⟩
  · by_cases z : w' = w
    · subst z; rw [pk_us]; exact S
    · rw [pk_un z]; exact o1 w' hw'
  · by_cases z : 96 * w ≤ i ∧ i < 96 * w + 96
    · obtain ⟨j, rfl⟩ : ∃ j, i = 96 * w + j := ⟨i - 96 * w, by omega⟩
      rw [hp_cp_in (by omega)]; exact o2 j (by omega)
    · unfold hp_cp; rw [if_neg z]; exact o2 i hi
  · by_cases z : w' = w
    · subst z; rw [pk_us, hp_cp_in hr]
      have := o3 0 r (by omega) hr
      rw [show 4 * 0 + r = r by omega] at this
      rcases this with h | ⟨p, hp, e, hb⟩
      · exact Or.inl h
      · exact Or.inr ⟨p, hp, e, hp_clo_start (hp_rts_iff.mpr ⟨hp, r, hr, by rw [show 4 * 0 + r = r by omega]; exact e⟩) hp_0⟩
    · rw [pk_un z, show hp_cp R (4 * w) 4 (4 * w' + r) = R (4 * w' + r) from if_neg (by omega)]; exact o3 w' r hw' hr
  · by_cases z : w' = w
    · subst z; rw [pk_us, hp_cp_in hm]
      intro ha hf
      exact hp_clo_step (hp_rts_S R 0) ha ⟨m, hm, rfl, by rw [show 96 * 0 + m = m by omega]; exact hf⟩ hp hp_0
    · rw [pk_un z, show hp_cp F (96 * w) 96 (96 * w' + m) = F (96 * w' + m) from if_neg (by omega)]; exact o4 w' m p hw' hm hp
/-- what the row of who is there becomes -/
theorem hp_T_upd (hT : hp_T P T) {T' : Nat → Int32} {w : Nat} {q : Int32} (hw : w < 3) (h1 : ∀ o, o < 24 → T' (24 * w + o) = if bt q o = true then 1 else 0) (h2 : ∀ j, ¬ (24 * w ≤ j ∧ j < 24 * w + 24) → T' j = T j) : hp_T (upd P w q) T' := by
  intro w' o hw' ho
  by_cases z : w' = w
  · subst z; rw [pk_us]; exact h1 o ho
  · rw [pk_un z, h2 _ (by omega)]; exact hT w' o hw' ho
end
