theorem i_vc_waitsFor {k : Nat} {u : SX} {v : SY} (I : i_Rel k u v) (hk : k + 3 ≤ 1539) (v1 : Int32) (v2 : Int32) : wpX_waitsFor (fun r => wpY_waitsFor (fun r' => r' = r ∧ i_Rel (k + 3) u v) v v1 v2) u v1 v2 := by
  obtain ⟨T, L, S, c, q, m, s, st, hd, pr, vl, rc, b, R, rfl, rfl⟩ := I
  have hT := b.2.1
  have hL := b.2.2.1
  have hb := R.1.2.2.2
  have badY : (v1 < 0 ∨ nI T ≤ v1) → wpY_waitsFor (fun r' => r' = 0 ∧ i_Rel (k + 3) (nI T, nI L, nI S, nI c, st, pr, hd, pd_xp (pd_p q), pd_x m, vl) (nI T, nI L, nI S, nI c, pd_yv q, pd_y m, s, pr, vl, rc)) (nI T, nI L, nI S, nI c, pd_yv q, pd_y m, s, pr, vl, rc) v1 v2 := fun h => by
    unfold wpY_waitsFor
    dsimp only
    exact yw_isT_f h (br_t rfl ⟨rfl, pw_rel b R⟩)
  have bad2 : ∀ t, t < T → (v2 < 0 ∨ nI T ≤ v2) → wpY_waitsFor (fun r' => r' = 0 ∧ i_Rel (k + 3) (nI T, nI L, nI S, nI c, st, pr, hd, pd_xp (pd_p q), pd_x m, vl) (nI T, nI L, nI S, nI c, pd_yv q, pd_y m, s, pr, vl, rc)) (nI T, nI L, nI S, nI c, pd_yv q, pd_y m, s, pr, vl, rc) (nI t) v2 := fun t ht h => by
    unfold wpY_waitsFor
    dsimp only
    exact yw_isT_t hT ht (br_f (by decide) (yw_isT_f h (br_t rfl ⟨rfl, pw_rel b R⟩)))
  unfold wpX_waitsFor
  dsimp only
  rcases pk_ix v1 (n := T) (by omega) with h | h | ⟨t, ht, rfl⟩
  · exact xw_isT_f (Or.inl h) (br_t rfl (badY (Or.inl h)))
  · exact xw_isT_f (Or.inr h) (br_t rfl (badY (Or.inr h)))
  · refine xw_isT_t hT ht (br_f (by decide) ?_)
    rcases pk_ix v2 (n := T) (by omega) with h | h | ⟨w, hw, rfl⟩
    · exact xw_isT_f (Or.inl h) (br_t rfl (bad2 t ht (Or.inl h)))
    · exact xw_isT_f (Or.inr h) (br_t rfl (bad2 t ht (Or.inr h)))
    · refine xw_isT_t hT hw (br_f (by decide) ?_)
      by_cases e : t = w
      · refine br_t (by rw [e]) (yw_waits hT hL hb ht hw (fun z => ?_) (fun _ z => ?_) (fun _ _ => ⟨rfl, pw_rel b R⟩))
        · obtain ⟨_, _, l, _, _, _, y⟩ := z
          rw [e] at y; omega
        · obtain ⟨_, _, l, _, _, y⟩ := z
          rw [e] at y; omega
      · refine br_f (fun z => e ((nI_eq (by omega) (by omega)).mp z)) (xw_rep hT hL R ht (fun r h => xw_has (by omega) (fun y => br_f (by decide) ?_) (fun y => br_t rfl (xw_all hT hL R ht (fun r' h' => xw_has (by omega) (fun y' => br_f (by decide) ?_) (fun y' => br_t rfl ?_))))))
        · have hE := (h w (by omega)).mp y
          exact yw_waits hT hL hb ht hw (fun _ => ⟨rfl, pw_rel b R⟩) (fun z => absurd hE z) (fun z => absurd hE z)
        · have hE : ¬ pd_E T L q m t w := fun z => by rw [(h w (by omega)).mpr z] at y; exact nomatch y
          have hE1 := (h' w (by omega)).mp y'
          exact yw_waits hT hL hb ht hw (fun z => absurd z hE) (fun _ _ => ⟨rfl, pw_rel b R⟩) (fun _ z => absurd hE1 z)
        · have hE : ¬ pd_E T L q m t w := fun z => by rw [(h w (by omega)).mpr z] at y; exact nomatch y
          have hE1 : ¬ pd_E1 T L q t w := fun z => by rw [(h' w (by omega)).mpr z] at y'; exact nomatch y'
          exact yw_waits hT hL hb ht hw (fun z => absurd z hE) (fun _ z => absurd z hE1) (fun _ _ => ⟨rfl, pw_rel b R⟩)
theorem i_vc_carries {k : Nat} {u : SX} {v : SY} (I : i_Rel k u v) (hk : k + 3 ≤ 1539) (v1 : Int32) (v2 : Int32) : wpX_carries (fun r => wpY_carries (fun r' v' => r' = r ∧ i_Rel (k + 3) u v') v v1 v2) u v1 v2 := by
  obtain ⟨T, L, S, c, q, m, s, st, hd, pr, vl, rc, b, R, rfl, rfl⟩ := I
  obtain ⟨hT2, hT, hL, hS1, hS, hc⟩ := id b
  have hb := R.1.2.2.2
  unfold wpX_carries wpY_carries
  dsimp only
  rcases pk_ix v1 (n := T) (by omega) with h | h | ⟨w, hw, rfl⟩
  · exact xw_isT_f (Or.inl h) (br_t rfl (yw_live_f (Or.inl h) (br_t rfl ⟨rfl, pw_rel b R⟩)))
  · exact xw_isT_f (Or.inr h) (br_t rfl (yw_live_f (Or.inr h) (br_t rfl ⟨rfl, pw_rel b R⟩)))
  · refine xw_isT_t hT hw (br_f (by decide) ?_)
    rcases pk_ix v2 (n := T) (by omega) with h | h | ⟨t, ht, rfl⟩
    · exact xw_isT_f (Or.inl h) (br_t rfl (yw_live hT hw (fun _ => br_f (by decide) (yw_live_f (Or.inl h) (br_t rfl ⟨rfl, pw_rel b R⟩))) (fun _ => br_t rfl ⟨rfl, pw_rel b R⟩)))
    · exact xw_isT_f (Or.inr h) (br_t rfl (yw_live hT hw (fun _ => br_f (by decide) (yw_live_f (Or.inr h) (br_t rfl ⟨rfl, pw_rel b R⟩))) (fun _ => br_t rfl ⟨rfl, pw_rel b R⟩)))
    · rw [nI_clamp (n := w) (by omega)]
      refine xw_isT_t hT ht (br_f (by decide) (xw_high hT (by omega) (fun r h => xw_reach hT2 hT hL R ht (fun r' h' => ?_))))
      have hC : bt r' w = true ↔ pd_RC (pd_E T L q m) (fun y => pd_lt pr t y) t w :=
        (h' w hw).trans (pd_RC_congr (fun a x hx => by
          have := pd_E_lt T L q m a x hx
          rw [h x (by omega)]
          exact ⟨fun z => z.2, fun z => ⟨this, z⟩⟩) t w)
      have hP : ∀ y, pd_lt pr t y ↔ ((1 : Int32) = 0 ∨ pd_lt pr t y) := fun y => ⟨Or.inr, fun z => z.elim (fun y => absurd y (by decide)) id⟩
      refine xw_has (by omega) (fun y => ⟨rfl, ?_⟩) (fun y => ⟨rfl, ?_⟩)
      · have hR := hC.mp y
        have lv := pd_RC_live R.1 hR
        have ne : w ≠ t := fun z => by
          have lt := lv.2.2.1
          rw [z] at lt
          rcases lt with x | x
          · exact Int32.lt_irrefl x
          · omega
        refine yw_live hT hw (fun _ => br_f (by decide) (yw_live hT ht (fun _ => br_f (by decide) (br_f (fun z => ne ((nI_eq (by omega) (by omega)).mp z)) (yw_spread (P := fun y => pd_lt pr t y) hT hL hb ht hP (fun rc' h01 hrc => ?_)))) (fun z => absurd lv.1 z))) (fun z => absurd lv.2.1 z)
        have e1 : rc' w = 1 := (h01 w (by omega)).resolve_left ((hrc w hw).mpr hR)
        refine ⟨vp_in_nI (by omega) (by decide), ?_⟩
        dsimp only
        rw [e1]
        exact ⟨rfl, rfl, pw_rel b R⟩
      · have hR : ¬ pd_RC (pd_E T L q m) (fun y => pd_lt pr t y) t w := fun z => by rw [hC.mpr z] at y; exact nomatch y
        refine yw_live hT hw (fun _ => br_f (by decide) (yw_live hT ht (fun _ => br_f (by decide) (br_c (fun _ => ⟨rfl, pw_rel b R⟩) (fun _ => yw_spread (P := fun y => pd_lt pr t y) hT hL hb ht hP (fun rc' h01 hrc => ?_)))) (fun _ => br_t rfl ⟨rfl, pw_rel b R⟩))) (fun _ => br_t rfl ⟨rfl, pw_rel b R⟩)
        have e0 : rc' w = 0 := Classical.byContradiction (fun z => hR ((hrc w hw).mp z))
        refine ⟨vp_in_nI (by omega) (by decide), ?_⟩
        dsimp only
        rw [e0]
        exact ⟨rfl, rfl, pw_rel b R⟩
theorem i_vc_victims {k : Nat} {u : SX} {v : SY} (I : i_Rel k u v) (hk : k + 3 ≤ 1539) : wpX_victims (fun r => wpY_victims (fun r' => r' = r ∧ i_Rel (k + 3) u v) v) u := by
  obtain ⟨T, L, S, c, q, m, s, st, hd, pr, vl, rc, b, R, rfl, rfl⟩ := I
  exact ⟨rfl, pw_rel b R⟩
theorem i_vc_victim {k : Nat} {u : SX} {v : SY} (I : i_Rel k u v) (hk : k + 3 ≤ 1539) (v1 : Int32) : wpX_victim (fun r => wpY_victim (fun r' => r' = r ∧ i_Rel (k + 3) u v) v v1) u v1 := by
  obtain ⟨T, L, S, c, q, m, s, st, hd, pr, vl, rc, b, R, rfl, rfl⟩ := I
  have hc := b.2.2.2.2.2
  by_cases h0 : v1 < 0
  · exact br_t h0 (br_t h0 ⟨rfl, pw_rel b R⟩)
  · rcases pk_ix v1 (n := c) (by omega) with h | h | ⟨i, hi, rfl⟩
    · exact absurd h h0
    · exact br_f h0 (br_t h (br_f h0 (br_t h ⟨rfl, pw_rel b R⟩)))
    · have h1 := nI_ge hi (by omega : c < 2 ^ 31)
      have hv : vp_in (nI i) 8 := vp_in_nI (by omega) (by decide)
      exact br_f h0 (br_f h1 ⟨hv, br_f h0 (br_f h1 (br_t (nI_lt (b := 8) (by omega) (by decide)) ⟨hv, rfl, pw_rel b R⟩))⟩)
