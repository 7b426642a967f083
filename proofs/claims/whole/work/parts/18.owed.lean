theorem i_vc_commit {k : Nat} {u : SX} {v : SY} (I : i_Rel k u v) (hk : k + 3 ≤ 1539) (v1 : Int32) : wpX_commit (fun r u' => wpY_commit (fun r' v' => r' = r ∧ i_Rel (k + 3) u' v') v v1) u v1 := by
  obtain ⟨T, L, S, c, q, m, s, st, hd, pr, vl, rc, b, R, rfl, rfl⟩ := I
  have hT := b.2.1
  have hL := b.2.2.1
  have hb := R.1.2.2.2
  unfold wpX_commit wpY_commit
  dsimp only
  rcases pk_ix v1 (n := T) (by omega) with h | h | ⟨t, ht, rfl⟩
  · exact xw_isT_f (Or.inl h) (br_t rfl (yw_state_f (Or.inl h) (br_f (by decide) ⟨rfl, pw_rel b R⟩)))
  · exact xw_isT_f (Or.inr h) (br_t rfl (yw_state_f (Or.inr h) (br_f (by decide) ⟨rfl, pw_rel b R⟩)))
  · have hS := pd_S_run (R.2.2 t ht (by omega))
    rw [nI_clamp (n := t) (by omega)]
    refine xw_isT_t hT ht (br_f (by decide) ⟨vp_in_nI (by omega) (by decide), ?_⟩)
    by_cases z : st t = 1
    · have hs := hS.mp z
      exact br_t z (xw_end hT hL ht (Or.inl rfl) R (fun st' hd' R' => yw_state hT hL ht hb (fun w => absurd w hs.2) (fun _ => br_t hs.1 (yw_end hT hL (by omega) hb ⟨rfl, pw_rel b R'⟩))))
    · exact br_f z (yw_state hT hL ht hb (fun _ => br_f (by decide) ⟨rfl, pw_rel b R⟩) (fun w => br_f (fun y => z (hS.mpr ⟨y, w⟩)) ⟨rfl, pw_rel b R⟩))
theorem i_vc_abort {k : Nat} {u : SX} {v : SY} (I : i_Rel k u v) (hk : k + 3 ≤ 1539) (v1 : Int32) : wpX_abort (fun r u' => wpY_abort (fun r' v' => r' = r ∧ i_Rel (k + 3) u' v') v v1) u v1 := by
  obtain ⟨T, L, S, c, q, m, s, st, hd, pr, vl, rc, b, R, rfl, rfl⟩ := I
  have hT := b.2.1
  have hL := b.2.2.1
  have hb := R.1.2.2.2
  unfold wpX_abort wpY_abort
  dsimp only
  rcases pk_ix v1 (n := T) (by omega) with h | h | ⟨t, ht, rfl⟩
  · exact xw_isT_f (Or.inl h) (br_t rfl (yw_live_f (Or.inl h) (br_t rfl ⟨rfl, pw_rel b R⟩)))
  · exact xw_isT_f (Or.inr h) (br_t rfl (yw_live_f (Or.inr h) (br_t rfl ⟨rfl, pw_rel b R⟩)))
  · have hS := pd_S_live (R.2.2 t ht (by omega))
    refine xw_isT_t hT ht (br_f (by decide) (xw_live (by omega) (fun z => br_f (by decide) (xw_end hT hL ht (Or.inl rfl) R (fun st' hd' R' => ?_))) (fun z => br_t rfl ?_)))
    · exact yw_live hT ht (fun _ => br_f (by decide) (yw_end hT hL (by omega) hb ⟨rfl, pw_rel b R'⟩)) (fun y => absurd (hS.mp z) y)
    · exact yw_live hT ht (fun y => absurd (hS.mpr y) z) (fun _ => br_t rfl ⟨rfl, pw_rel b R⟩)
theorem i_vc_report {k : Nat} {u : SX} {v : SY} (I : i_Rel k u v) (hk : k + 3 ≤ 1539) (v1 : Int32) : wpX_report (fun r u' => wpY_report (fun r' v' => r' = r ∧ i_Rel (k + 3) u' v') v v1) u v1 := by
  obtain ⟨T, L, S, c, q, m, s, st, hd, pr, vl, rc, b, R, rfl, rfl⟩ := I
  obtain ⟨hT2, hT, hL, hS1, hS, hc⟩ := id b
  have hb := R.1.2.2.2
  unfold wpX_report
  dsimp only
  by_cases h0 : v1 < 0
  · exact br_t h0 (br_t h0 ⟨rfl, pw_rel b R⟩)
  · refine br_f h0 ?_
    rcases pk_ix v1 (n := S) (by omega) with h | h | ⟨x, hx, rfl⟩
    · exact absurd h h0
    · exact br_f (Int32.not_lt.mpr h) (br_f h0 (br_f (Int32.not_lt.mpr h) ⟨rfl, pw_rel b R⟩))
    · refine br_t (nI_lt hx (by omega)) ⟨L + 1, ?_⟩
      have R1 : pd_R 8 T L q (pd_mk (pd_ms S x T L q) m) s st hd := pd_R_mk R (fun a b h => (of_decide_eq_true h).2.2.2)
      have i := xw_rp_l (n := nI c) (pr := pr) (vl := vl) (m := m) (st := st) (hd := hd) (post := fun r u' => wpY_report (fun r' v' => r' = r ∧ i_Rel (k + 3) u' v') (nI T, nI L, nI S, nI c, pd_yv q, pd_y m, s, pr, vl, rc) (nI x)) hT hL hS1 hS hx hb
        (pw_resolve (n' := nI c) hT2 hT hL R1 (fun q' m' s' st' hd' vl' n' R' hn' HY => by
          dsimp only
          unfold wpY_report
          dsimp only
          exact br_f h0 (br_t (nI_lt hx (by omega)) (yw_ms hT hL hS1 hS hx hb (HY rc _ (fun rc' => ⟨rfl, pw_rel ⟨hT2, hT, hL, hS1, hS, hn'⟩ R'⟩)))))) L 0 (by omega)
      rw [pd_ms_0] at i
      exact i
theorem i_vc_settle {k : Nat} {u : SX} {v : SY} (I : i_Rel k u v) (hk : k + 3 ≤ 1539) : wpX_settle (fun r u' => wpY_settle (fun r' v' => r' = r ∧ i_Rel (k + 3) u' v') v) u := by
  obtain ⟨T, L, S, c, q, m, s, st, hd, pr, vl, rc, b, R, rfl, rfl⟩ := I
  obtain ⟨hT2, hT, hL, hS1, hS, hc⟩ := id b
  have hb := R.1.2.2.2
  have R1 : pd_R 8 T L q (pd_mk (pd_ma T L q) m) s st hd := pd_R_mk R (fun a b h => (of_decide_eq_true h).2.2)
  have i := xw_st_l (S := S) (n := nI c) (pr := pr) (vl := vl) (m := m) (st := st) (hd := hd) (post := fun r u' => wpY_settle (fun r' v' => r' = r ∧ i_Rel (k + 3) u' v') (nI T, nI L, nI S, nI c, pd_yv q, pd_y m, s, pr, vl, rc)) hT hL hb
    (pw_resolve (n' := nI c) hT2 hT hL R1 (fun q' m' s' st' hd' vl' n' R' hn' HY => by
      dsimp only
      have j := yw_st_l (S := S) (n := nI c) (pr := pr) (vl := vl) (m := m) (s := s) (rc := rc) (post := fun r' v' => r' = nI n' ∧ i_Rel (k + 3) (nI T, nI L, nI S, nI n', st', pr, hd', pd_xp (pd_p q'), pd_x (m'), vl') v') hT hL hS1 hS hb
        (HY rc _ (fun rc' => ⟨rfl, pw_rel ⟨hT2, hT, hL, hS1, hS, hn'⟩ R'⟩)) S 0 (by omega)
      rw [pd_mt_0] at j
      exact ⟨S + 1, j⟩)) L 0 (by omega)
  rw [pd_ma_0] at i
  exact ⟨L + 1, i⟩
theorem i_vc_state {k : Nat} {u : SX} {v : SY} (I : i_Rel k u v) (hk : k + 3 ≤ 1539) (v1 : Int32) : wpX_state (fun r => wpY_state (fun r' => r' = r ∧ i_Rel (k + 3) u v) v v1) u v1 := by
  obtain ⟨T, L, S, c, q, m, s, st, hd, pr, vl, rc, b, R, rfl, rfl⟩ := I
  have hT := b.2.1
  have hL := b.2.2.1
  have hb := R.1.2.2.2
  unfold wpX_state
  dsimp only
  rcases pk_ix v1 (n := T) (by omega) with h | h | ⟨t, ht, rfl⟩
  · exact xw_isT_f (Or.inl h) (br_t rfl (yw_state_f (Or.inl h) ⟨rfl, pw_rel b R⟩))
  · exact xw_isT_f (Or.inr h) (br_t rfl (yw_state_f (Or.inr h) ⟨rfl, pw_rel b R⟩))
  · have hS := R.2.2 t ht (by omega)
    rw [nI_clamp (n := t) (by omega)]
    refine xw_isT_t hT ht (br_f (by decide) ⟨vp_in_nI (by omega) (by decide), yw_state hT hL ht hb (fun w => ⟨?_, pw_rel b R⟩) (fun w => ⟨?_, pw_rel b R⟩)⟩)
    · obtain ⟨l, hl, y⟩ := id w
      exact (hS.2.1 (R.1.2.2.1 l t hl ht (by omega)) w).symm
    · by_cases z : s t = 1
      · rw [hS.2.2.1 z w, z]
      · exact (hS.2.2.2 z).symm
theorem i_vc_priority {k : Nat} {u : SX} {v : SY} (I : i_Rel k u v) (hk : k + 3 ≤ 1539) (v1 : Int32) : wpX_priority (fun r => wpY_priority (fun r' => r' = r ∧ i_Rel (k + 3) u v) v v1) u v1 := by
  obtain ⟨T, L, S, c, q, m, s, st, hd, pr, vl, rc, b, R, rfl, rfl⟩ := I
  have hT := b.2.1
  unfold wpX_priority wpY_priority
  dsimp only
  rcases pk_ix v1 (n := T) (by omega) with h | h | ⟨t, ht, rfl⟩
  · exact xw_isT_f (Or.inl h) (br_t rfl (yw_live_f (Or.inl h) (br_t rfl ⟨rfl, pw_rel b R⟩)))
  · exact xw_isT_f (Or.inr h) (br_t rfl (yw_live_f (Or.inr h) (br_t rfl ⟨rfl, pw_rel b R⟩)))
  · have hS := pd_S_live (R.2.2 t ht (by omega))
    have hi : vp_in (nI t) 8 := vp_in_nI (by omega) (by decide)
    refine xw_isT_t hT ht (br_f (by decide) (xw_live (by omega) (fun z => br_f (by decide) ⟨hi, ?_⟩) (fun z => br_t rfl ?_)))
    · exact yw_live hT ht (fun _ => br_f (by decide) ⟨hi, rfl, pw_rel b R⟩) (fun y => absurd (hS.mp z) y)
    · exact yw_live hT ht (fun y => absurd (hS.mpr y) z) (fun _ => br_t rfl ⟨rfl, pw_rel b R⟩)
theorem i_vc_holder {k : Nat} {u : SX} {v : SY} (I : i_Rel k u v) (hk : k + 3 ≤ 1539) (v1 : Int32) : wpX_holder (fun r => wpY_holder (fun r' => r' = r ∧ i_Rel (k + 3) u v) v v1) u v1 := by
  obtain ⟨T, L, S, c, q, m, s, st, hd, pr, vl, rc, b, R, rfl, rfl⟩ := I
  have hT := b.2.1
  have hL := b.2.2.1
  have hb := R.1.2.2.2
  unfold wpX_holder wpY_holder
  dsimp only
  rcases pk_ix v1 (n := L) (by omega) with h | h | ⟨l, hl, rfl⟩
  · exact xw_isL_f (Or.inl h) (br_t rfl (yw_isL_f (Or.inl h) (br_t rfl ⟨rfl, pw_rel b R⟩)))
  · exact xw_isL_f (Or.inr h) (br_t rfl (yw_isL_f (Or.inr h) (br_t rfl ⟨rfl, pw_rel b R⟩)))
  · have hH := R.2.1 l hl
    rw [nI_clamp (n := l) (by omega)]
    exact xw_isL_t hL hl (br_f (by decide) ⟨vp_in_nI (by omega) (by decide), yw_isL_t hL hl (br_f (by decide) (yw_at (k := 0) hT hb (by omega) (by omega) (fun t ht e => ⟨(hH.1 t ht e).symm, pw_rel b R⟩) (fun h => ⟨(hH.2 h).symm, pw_rel b R⟩)))⟩)
theorem i_vc_waiter {k : Nat} {u : SX} {v : SY} (I : i_Rel k u v) (hk : k + 3 ≤ 1539) (v1 : Int32) (v2 : Int32) : wpX_waiter (fun r => wpY_waiter (fun r' => r' = r ∧ i_Rel (k + 3) u v) v v1 v2) u v1 v2 := by
  obtain ⟨T, L, S, c, q, m, s, st, hd, pr, vl, rc, b, R, rfl, rfl⟩ := I
  have hT := b.2.1
  have hL := b.2.2.1
  have hb := R.1.2.2.2
  unfold wpX_waiter wpY_waiter
  dsimp only
  rcases pk_ix v1 (n := L) (by omega) with h | h | ⟨l, hl, rfl⟩
  · exact xw_isL_f (Or.inl h) (br_t rfl (yw_isL_f (Or.inl h) (br_t rfl ⟨rfl, pw_rel b R⟩)))
  · exact xw_isL_f (Or.inr h) (br_t rfl (yw_isL_f (Or.inr h) (br_t rfl ⟨rfl, pw_rel b R⟩)))
  · refine xw_isL_t hL hl (br_f (by decide) ?_)
    by_cases h0 : v2 < 0
    · exact br_t h0 (yw_isL_t hL hl (br_f (by decide) (br_t h0 ⟨rfl, pw_rel b R⟩)))
    · refine br_f h0 ?_
      rcases pk_ix v2 (n := T) (by omega) with h | h | ⟨i, hi, rfl⟩
      · exact absurd h h0
      · exact br_f (Int32.not_lt.mpr h) (yw_isL_t hL hl (br_f (by decide) (br_f h0 (br_f (Int32.not_lt.mpr h) ⟨rfl, pw_rel b R⟩))))
      · have hlt := nI_lt hi (by omega : T < 2 ^ 31)
        rw [show (1 : Int32) + nI i = nI (i + 1) from (nI_add 1 i).trans (congrArg nI (Nat.add_comm 1 i)), nI_1]
        refine br_t hlt (xw_at hT (pd_p_lt hb) (by omega) (by omega) (fun t ht e => ?_) (fun hn => ?_))
        · have e1 : q l t = i + 2 := by have z : q l t - 1 = i + 1 := e; omega
          refine yw_isL_t hL hl (br_f (by decide) (br_f h0 (br_t hlt (yw_at hT hb (by omega) (by omega) (fun t' ht' e' => ⟨?_, pw_rel b R⟩) (fun h => absurd e1 (h t ht))))))
          rw [(R.1.1 l hl).2.2 t' t ht' ht (by omega) (by omega)]
        · exact yw_isL_t hL hl (br_f (by decide) (br_f h0 (br_t hlt (yw_at hT hb (by omega) (by omega) (fun t' ht' e' => absurd (by show q l t' - 1 = i + 1; omega) (hn t' ht')) (fun h => ⟨rfl, pw_rel b R⟩)))))
theorem i_vc_reported {k : Nat} {u : SX} {v : SY} (I : i_Rel k u v) (hk : k + 3 ≤ 1539) (v1 : Int32) (v2 : Int32) : wpX_reported (fun r => wpY_reported (fun r' => r' = r ∧ i_Rel (k + 3) u v) v v1 v2) u v1 v2 := by
  obtain ⟨T, L, S, c, q, m, s, st, hd, pr, vl, rc, b, R, rfl, rfl⟩ := I
  have hT := b.2.1
  have hL := b.2.2.1
  unfold wpX_reported wpY_reported
  dsimp only
  rcases pk_ix v1 (n := T) (by omega) with h | h | ⟨t, ht, rfl⟩
  · exact xw_isT_f (Or.inl h) (br_t rfl (yw_isT_f (Or.inl h) (br_t rfl ⟨rfl, pw_rel b R⟩)))
  · exact xw_isT_f (Or.inr h) (br_t rfl (yw_isT_f (Or.inr h) (br_t rfl ⟨rfl, pw_rel b R⟩)))
  · refine xw_isT_t hT ht (br_f (by decide) ?_)
    rcases pk_ix v2 (n := L) (by omega) with h | h | ⟨l, hl, rfl⟩
    · exact xw_isL_f (Or.inl h) (br_t rfl (yw_isT_t hT ht (br_f (by decide) (yw_isL_f (Or.inl h) (br_t rfl ⟨rfl, pw_rel b R⟩)))))
    · exact xw_isL_f (Or.inr h) (br_t rfl (yw_isT_t hT ht (br_f (by decide) (yw_isL_f (Or.inr h) (br_t rfl ⟨rfl, pw_rel b R⟩)))))
    · have hx : vp_in (nI (l * 8 + t)) 96 := vp_in_nI (by omega) (by decide)
      have hy : vp_in (nI (t * 12 + l)) 96 := vp_in_nI (by omega) (by decide)
      rw [pd_ix8, pd_ix12, nI_clamp (n := l * 8 + t) (by omega), nI_clamp (n := t * 12 + l) (by omega), pd_x_at m (by omega), pd_y_at m (by omega)]
      refine xw_isL_t hL hl (br_f (by decide) ⟨hx, ?_⟩)
      by_cases z : m l t = 0
      · exact br_t z (yw_isT_t hT ht (br_f (by decide) (yw_isL_t hL hl (br_f (by decide) ⟨hy, br_t z ⟨rfl, pw_rel b R⟩⟩))))
      · exact br_f z (yw_isT_t hT ht (br_f (by decide) (yw_isL_t hL hl (br_f (by decide) ⟨hy, br_f z ⟨rfl, pw_rel b R⟩⟩))))
