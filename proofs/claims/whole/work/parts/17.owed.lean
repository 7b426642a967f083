theorem i_vc_request {k : Nat} {u : SX} {v : SY} (I : i_Rel k u v) (hk : k + 3 ≤ 1539) (v1 : Int32) (v2 : Int32) : wpX_request (fun r u' => wpY_request (fun r' v' => r' = r ∧ i_Rel (k + 3) u' v') v v1 v2) u v1 v2 := by
  obtain ⟨T, L, S, c, q, m, s, st, hd, pr, vl, rc, b, R, rfl, rfl⟩ := I
  have hT := b.2.1
  have hL := b.2.2.1
  have hb := R.1.2.2.2
  unfold wpX_request wpY_request
  dsimp only
  rcases pk_ix v1 (n := T) (by omega) with h | h | ⟨t, ht, rfl⟩
  · exact xw_isT_f (Or.inl h) (br_t rfl (yw_live_f (Or.inl h) (br_t rfl ⟨rfl, pw_rel b R⟩)))
  · exact xw_isT_f (Or.inr h) (br_t rfl (yw_live_f (Or.inr h) (br_t rfl ⟨rfl, pw_rel b R⟩)))
  · refine xw_isT_t hT ht (br_f (by decide) ?_)
    have hS := pd_S_live (R.2.2 t ht (by omega))
    rcases pk_ix v2 (n := L) (by omega) with h | h | ⟨l, hl, rfl⟩
    · exact xw_isL_f (Or.inl h) (br_t rfl (yw_live hT ht (fun _ => br_f (by decide) (yw_isL_f (Or.inl h) (br_t rfl ⟨rfl, pw_rel b R⟩))) (fun _ => br_t rfl ⟨rfl, pw_rel b R⟩)))
    · exact xw_isL_f (Or.inr h) (br_t rfl (yw_live hT ht (fun _ => br_f (by decide) (yw_isL_f (Or.inr h) (br_t rfl ⟨rfl, pw_rel b R⟩))) (fun _ => br_t rfl ⟨rfl, pw_rel b R⟩)))
    · have hl12 : vp_in (nI l) 12 := vp_in_nI (by omega) (by decide)
      have hi : vp_in (nI (t * 12 + l)) 96 := vp_in_nI (by omega) (by decide)
      have hH := R.2.1 l hl
      rw [nI_clamp (n := l) (by omega), nI_clamp (n := t) (by omega), pd_ix12, nI_clamp (n := t * 12 + l) (by omega), pd_yv_at q (by omega)]
      refine xw_isL_t hL hl (br_f (by decide) (xw_live (by omega) (fun z => br_f (by decide) ⟨hl12, ?_⟩) (fun z => br_t rfl ?_)))
      · have hs := hS.mp z
        have no : q l t ≠ 0 → wpY_isLive (fun r_1 => (r_1 = 0 → (0 : Int32) = 0 ∧ i_Rel (k + 3) (nI T, nI L, nI S, nI c, st, pr, hd, pd_xp (pd_p q), pd_x m, vl) (nI T, nI L, nI S, nI c, pd_yv q, pd_y m, s, pr, vl, rc)) ∧ (¬ r_1 = 0 → wpY_isLock (fun r_13 => (r_13 = 0 → (0 : Int32) = 0 ∧ i_Rel (k + 3) (nI T, nI L, nI S, nI c, st, pr, hd, pd_xp (pd_p q), pd_x m, vl) (nI T, nI L, nI S, nI c, pd_yv q, pd_y m, s, pr, vl, rc)) ∧ (¬ r_13 = 0 → vp_in (nI (t * 12 + l)) 96 ∧ ((pd_v (q l t) = -1 → ∃ n38, wY_request_38 (fun r' v' => r' = 0 ∧ i_Rel (k + 3) (nI T, nI L, nI S, nI c, st, pr, hd, pd_xp (pd_p q), pd_x m, vl) v') (nI t) (nI l) (nI T) (nI L) (nI S) (nI c) (pd_yv q) (pd_y m) s pr vl rc n38 0 0) ∧ (¬ pd_v (q l t) = -1 → (0 : Int32) = 0 ∧ i_Rel (k + 3) (nI T, nI L, nI S, nI c, st, pr, hd, pd_xp (pd_p q), pd_x m, vl) (nI T, nI L, nI S, nI c, pd_yv q, pd_y m, s, pr, vl, rc))))) (nI T, nI L, nI S, nI c, pd_yv q, pd_y m, s, pr, vl, rc) (nI l))) (nI T, nI L, nI S, nI c, pd_yv q, pd_y m, s, pr, vl, rc) (nI t) := fun e =>
          yw_live hT ht (fun _ => br_f (by decide) (yw_isL_t hL hl (br_f (by decide) ⟨hi, br_f (fun y => e ((pd_v_none _ (hb l t)).mp y)) ⟨rfl, pw_rel b R⟩⟩))) (fun y => absurd hs y)
        by_cases e1 : q l t = 1
        · exact br_t ((pd_H_iff hT hH ht).mpr e1) (no (by omega))
        · refine br_f (fun y => e1 ((pd_H_iff hT hH ht).mp y)) (xw_isQ (pd_p_lt hb) (by omega) (by omega) (fun y => br_f (by decide) (no (fun w => y (by show q l t - 1 = 0; omega)))) (fun y => br_t rfl ⟨hl12, ?_⟩))
          have e0 : q l t = 0 := by have y2 : q l t - 1 = 0 := y; omega
          have m0 : m l t = 0 := Classical.byContradiction (fun w => by have := R.1.2.1 l t hl ht w; omega)
          have em : pd_set m l t 0 = m := pd_set_id m l t 0 m0
          by_cases eh : hd l = -1
          · have hn := (pd_H_none hT hH).mp eh
            have n0 := pd_n_0 (R.1.1 l hl) hn
            have ep : pd_p (pd_set q l t 1) = pd_p q := by
              funext x y
              show pd_set q l t 1 x y - 1 = q x y - 1
              by_cases w : x = l ∧ y = t
              · rw [w.1, w.2, pd_set_at, e0]
              · rw [pd_set_ne _ _ _ _ w]
            have rel : i_Rel (k + 3) (nI T, nI L, nI S, nI c, st, pr, upd hd l (nI t), pd_xp (pd_p q), pd_x m, vl) (nI T, nI L, nI S, nI c, pd_yv (pd_set q l t (pd_n T (q l) + 1)), pd_y (pd_set m l t 0), s, pr, vl, rc) := by
              rw [em, n0, ← ep]
              exact pw_rel b (pd_R_grant hT R hl ht e0 hs hn)
            refine br_t eh ⟨hl12, nm_e (yw_live hT ht (fun _ => br_f (by decide) (yw_isL_t hL hl (br_f (by decide) ⟨hi, br_t ((pd_v_none _ (hb l t)).mpr e0) ⟨T + 1, ?_⟩⟩))) (fun w => absurd hs w))⟩
            exact yw_req_l hT hb (by omega) (by omega) (fun _ => ⟨rfl, rel⟩) (fun w => absurd n0 w) T 0 (by omega)
          · have hh : ∃ u, u < T ∧ q l u = 1 := Classical.byContradiction (fun w => eh (hH.2 (fun u hu z => w ⟨u, hu, z⟩)))
            obtain ⟨u, hu, eu⟩ := hh
            have nt := pd_n_tail (R.1.1 l hl) hu eu
            have ep : pd_p (pd_set q l t (pd_n T (q l) + 1)) = pd_set (pd_p q) l t (pd_n T (pd_p q l) + 1) := by
              funext x y
              show pd_set q l t (pd_n T (q l) + 1) x y - 1 = _
              by_cases w : x = l ∧ y = t
              · rw [w.1, w.2, pd_set_at, pd_set_at, nt]
                rfl
              · rw [pd_set_ne _ _ _ _ w, pd_set_ne _ _ _ _ w]
                rfl
            have rel : i_Rel (k + 3) (nI T, nI L, nI S, nI c, upd st t 2, pr, hd, pd_xp (pd_set (pd_p q) l t (pd_n T (pd_p q l) + 1)), pd_x m, vl) (nI T, nI L, nI S, nI c, pd_yv (pd_set q l t (pd_n T (q l) + 1)), pd_y (pd_set m l t 0), s, pr, vl, rc) := by
              rw [em, ← ep]
              exact pw_rel b (pd_R_queue hT R hl ht e0 hs (by omega))
            refine br_f eh (xw_enqueue hT (pd_p_lt hb) (by omega) (by omega) ⟨vp_in_nI (by omega) (by decide), nm_e (yw_live hT ht (fun _ => br_f (by decide) (yw_isL_t hL hl (br_f (by decide) ⟨hi, br_t ((pd_v_none _ (hb l t)).mpr e0) ⟨T + 1, ?_⟩⟩))) (fun w => absurd hs w))⟩)
            exact yw_req_l hT hb (by omega) (by omega) (fun w => by omega) (fun _ => ⟨rfl, rel⟩) T 0 (by omega)
      · exact yw_live hT ht (fun y => absurd (hS.mpr y) z) (fun _ => br_t rfl ⟨rfl, pw_rel b R⟩)
theorem i_vc_drop {k : Nat} {u : SX} {v : SY} (I : i_Rel k u v) (hk : k + 3 ≤ 1539) (v1 : Int32) (v2 : Int32) : wpX_drop (fun r u' => wpY_drop (fun r' v' => r' = r ∧ i_Rel (k + 3) u' v') v v1 v2) u v1 v2 := by
  obtain ⟨T, L, S, c, q, m, s, st, hd, pr, vl, rc, b, R, rfl, rfl⟩ := I
  have hT := b.2.1
  have hL := b.2.2.1
  have hb := R.1.2.2.2
  unfold wpX_drop wpY_drop
  dsimp only
  rcases pk_ix v1 (n := T) (by omega) with h | h | ⟨t, ht, rfl⟩
  · exact xw_isT_f (Or.inl h) (br_t rfl (yw_isT_f (Or.inl h) (br_t rfl ⟨rfl, pw_rel b R⟩)))
  · exact xw_isT_f (Or.inr h) (br_t rfl (yw_isT_f (Or.inr h) (br_t rfl ⟨rfl, pw_rel b R⟩)))
  · refine xw_isT_t hT ht (br_f (by decide) ?_)
    rcases pk_ix v2 (n := L) (by omega) with h | h | ⟨l, hl, rfl⟩
    · exact xw_isL_f (Or.inl h) (br_t rfl (yw_isT_t hT ht (br_f (by decide) (yw_isL_f (Or.inl h) (br_t rfl ⟨rfl, pw_rel b R⟩)))))
    · exact xw_isL_f (Or.inr h) (br_t rfl (yw_isT_t hT ht (br_f (by decide) (yw_isL_f (Or.inr h) (br_t rfl ⟨rfl, pw_rel b R⟩)))))
    · have hl12 : vp_in (nI l) 12 := vp_in_nI (by omega) (by decide)
      have hi : vp_in (nI (t * 12 + l)) 96 := vp_in_nI (by omega) (by decide)
      have hH := R.2.1 l hl
      have bq := hb l t
      rw [nI_clamp (n := l) (by omega), pd_ix12, nI_clamp (n := t * 12 + l) (by omega), pd_yv_at q (by omega)]
      refine xw_isL_t hL hl (br_f (by decide) ⟨hl12, ?_⟩)
      by_cases e1 : q l t = 1
      · refine br_t ((pd_H_iff hT hH ht).mpr e1) (xw_pass hT hL (pd_p_lt hb) (by omega) (fun hn => ?_) (fun u hu eu st' w1 w0 => ?_))
        · have hn2 : ∀ u, u < T → q l u ≠ 2 := fun u hu z => hn u hu (by show q l u - 1 = 1; omega)
          have hN := pd_h_none R.1 hl ht e1 hn2
          have R' := pd_R_hold0 R hl ht e1 hn2
          have rel : i_Rel (k + 3) (nI T, nI L, nI S, nI c, st, pr, upd hd l (-1), pd_xp (pd_p q), pd_x m, vl) (nI T, nI L, nI S, nI c, pd_yv (pd_rem T q l t), pd_y (pd_mrem T q m l t), s, pr, vl, rc) := by
            rw [hN.2, ← hN.1]
            exact pw_rel b R'
          exact yw_isT_t hT ht (br_f (by decide) (yw_isL_t hL hl (br_f (by decide) ⟨hi, br_f (fun y => by have := (pd_v_none _ bq).mp y; omega) ⟨hi, br_t ((pd_v_zero _ bq).mpr e1) (yw_leave hT hb (by omega) (by omega) (by omega) (br_f (by decide) ⟨rfl, rel⟩))⟩⟩)))
        · have en : q l u = 2 := by have z : q l u - 1 = 1 := eu; omega
          have hN := pd_h_next R.1 hl ht e1 hu en
          have R' := pd_R_hold1 (st' := st') R hl ht e1 hu en (by omega) (fun w => w1 (by rw [pd_W_p, hN.1] at w; exact w)) (fun w => w0 (fun a ha => by rw [← hN.1]; exact Classical.byContradiction (fun z => w (pd_W_p.mpr ⟨a, ha, z⟩))))
          have rel : i_Rel (k + 3) (nI T, nI L, nI S, nI c, st', pr, upd hd l (nI u), pd_xp (pd_rem T (pd_p q) l u), pd_x (pd_set m l u 0), vl) (nI T, nI L, nI S, nI c, pd_yv (pd_rem T q l t), pd_y (pd_mrem T q m l t), s, pr, vl, rc) := by
            rw [hN.2, ← hN.1]
            exact pw_rel b R'
          exact yw_isT_t hT ht (br_f (by decide) (yw_isL_t hL hl (br_f (by decide) ⟨hi, br_f (fun y => by have := (pd_v_none _ bq).mp y; omega) ⟨hi, br_t ((pd_v_zero _ bq).mpr e1) (yw_leave hT hb (by omega) (by omega) (by omega) (br_f (by decide) ⟨rfl, rel⟩))⟩⟩)))
      · refine br_f (fun y => e1 ((pd_H_iff hT hH ht).mp y)) (xw_isQ (pd_p_lt hb) (by omega) (by omega) (fun y => br_f (by decide) (xw_take hT (pd_p_lt hb) (by omega) (by omega) ?_)) (fun y => br_t rfl ?_))
        · have e2 : 2 ≤ q l t := by have z : q l t - 1 ≠ 0 := y; omega
          have eX := pd_q_p (T := T) e2
          have eM := pd_q_m (T := T) (m := m) e2
          have fin : ∀ st' : Nat → Int32, (pd_W L (pd_rem T q l t) t → st' = st) → (¬ pd_W L (pd_rem T q l t) t → st' = upd st t 1) → i_Rel (k + 3) (nI T, nI L, nI S, nI c, st', pr, hd, pd_xp (pd_rem T (pd_p q) l t), pd_x (pd_set m l t 0), vl) (nI T, nI L, nI S, nI c, pd_yv (pd_rem T q l t), pd_y (pd_mrem T q m l t), s, pr, vl, rc) := fun st' w1 w0 => by
            rw [eX, eM]
            exact pw_rel b (pd_R_with hT R hl ht e2 w1 w0)
          dsimp only
          refine xw_run (t := t) hL (pd_rem_lt (pd_p_lt hb)) (by omega) (fun z => ?_) (fun z => ?_)
          · have hw : pd_W L (pd_rem T q l t) t := by rw [pd_W_p, ← eX]; exact z
            exact yw_isT_t hT ht (br_f (by decide) (yw_isL_t hL hl (br_f (by decide) ⟨hi, br_f (fun y => by have := (pd_v_none _ bq).mp y; omega) ⟨hi, br_f (fun y => e1 ((pd_v_zero _ bq).mp y)) (yw_leave hT hb (by omega) (by omega) (by omega) (br_t rfl ⟨rfl, fin st (fun _ => rfl) (fun w => absurd hw w)⟩))⟩⟩)))
          · have hw : ¬ pd_W L (pd_rem T q l t) t := by rw [pd_W_p, ← eX]; exact fun ⟨a, ha, w⟩ => w (z a ha)
            exact yw_isT_t hT ht (br_f (by decide) (yw_isL_t hL hl (br_f (by decide) ⟨hi, br_f (fun y => by have := (pd_v_none _ bq).mp y; omega) ⟨hi, br_f (fun y => e1 ((pd_v_zero _ bq).mp y)) (yw_leave hT hb (by omega) (by omega) (by omega) (br_t rfl ⟨rfl, fin (upd st t 1) (fun w => absurd w hw) (fun _ => rfl)⟩))⟩⟩)))
        · have e0 : q l t = 0 := by have z : q l t - 1 = 0 := y; omega
          exact yw_isT_t hT ht (br_f (by decide) (yw_isL_t hL hl (br_f (by decide) ⟨hi, br_t ((pd_v_none _ bq).mpr e0) ⟨rfl, pw_rel b R⟩⟩)))
