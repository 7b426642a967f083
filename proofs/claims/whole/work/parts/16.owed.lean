/-! more of the reference's walks -/
theorem yw_state_l {T L S : Nat} {n : Int32} {s pr vl rc : Nat → Int32} {q : Nat → Nat → Nat} {m : Nat → Nat → Int32} {post : Int32 → Prop} {t : Nat} (hL : L ≤ 12) (ht : t < 8) (hb : ∀ a b, q a b < 16) (h1 : pd_W L q t → post 2) (h0 : ¬ pd_W L q t → post (s t)) :
    ∀ d j, j + d = L → (∀ l, l < j → ¬ 2 ≤ q l t) → wY_state_12 post (nI t) (nI T) (nI L) (nI S) n (pd_yv q) (pd_y m) s pr vl rc (d + 1) (nI j) := by
  intro d
  induction d with
  | zero =>
    intro j hj h
    refine br_t (nI_le (by omega) (by omega)) ?_
    rw [nI_clamp (n := t) (by omega)]
    exact ⟨vp_in_nI ht (by decide), h0 (fun ⟨l, hl, y⟩ => h l (by omega) y)⟩
  | succ d ih =>
    intro j hj h
    refine br_f (nI_ge (by omega) (by omega)) ?_
    rw [pd_ix12, nI_clamp (n := t * 12 + j) (by omega), pd_yv_at q (by omega)]
    refine ⟨vp_in_nI (by omega) (by decide), ?_⟩
    by_cases g : 2 ≤ q j t
    · exact br_f (fun y => ((pd_v_le0 _ (hb j t)).mp y) g) (h1 ⟨j, by omega, g⟩)
    · refine br_t ((pd_v_le0 _ (hb j t)).mpr g) (nm_r (nI_1 _) (ih (j + 1) (by omega) (fun l hl => ?_)))
      by_cases z : l = j
      · rw [z]; exact g
      · exact h l (by omega)
theorem yw_state {T L S : Nat} {n : Int32} {s pr vl rc : Nat → Int32} {q : Nat → Nat → Nat} {m : Nat → Nat → Int32} {post : Int32 → Prop} {t : Nat} (hT : T ≤ 8) (hL : L ≤ 12) (ht : t < T) (hb : ∀ a b, q a b < 16) (h1 : pd_W L q t → post 2) (h0 : ¬ pd_W L q t → post (s t)) : wpY_state post (nI T, nI L, nI S, n, pd_yv q, pd_y m, s, pr, vl, rc) (nI t) := by
  unfold wpY_state
  dsimp only
  exact yw_isT_t hT ht (br_f (by decide) ⟨L + 1, yw_state_l hL (by omega) hb h1 h0 L 0 (by omega) (fun l hl => by omega)⟩)
theorem yw_state_f {T L S : Nat} {n : Int32} {s pr vl rc : Nat → Int32} {q : Nat → Nat → Nat} {m : Nat → Nat → Int32} {post : Int32 → Prop} {x : Int32} (hx : x < 0 ∨ nI T ≤ x) (hp : post (-1)) : wpY_state post (nI T, nI L, nI S, n, pd_yv q, pd_y m, s, pr, vl, rc) x := by
  unfold wpY_state
  dsimp only
  exact yw_isT_f hx (br_t rfl hp)
theorem yw_at_l {T L S : Nat} {n : Int32} {s pr vl rc : Nat → Int32} {q : Nat → Nat → Nat} {m : Nat → Nat → Int32} {post : Int32 → Prop} {l k : Nat} (hT : T ≤ 8) (hb : ∀ a b, q a b < 16) (hl : l < 12) (hk : k < 16) (h1 : ∀ t, t < T → q l t = k + 1 → post (nI t)) (h0 : (∀ t, t < T → q l t ≠ k + 1) → post (-1)) :
    ∀ d j, j + d = T → (∀ t, t < j → q l t ≠ k + 1) → wY_at_2 post (nI l) (nI k) (nI T) (nI L) (nI S) n (pd_yv q) (pd_y m) s pr vl rc (d + 1) (nI j) := by
  intro d
  induction d with
  | zero =>
    intro j hj h
    exact br_t (nI_le (by omega) (by omega)) (h0 (fun t ht => h t (by omega)))
  | succ d ih =>
    intro j hj h
    refine br_f (nI_ge (by omega) (by omega)) ?_
    rw [pd_ix12, nI_clamp (n := j * 12 + l) (by omega), pd_yv_at q hl]
    refine ⟨vp_in_nI (by omega) (by decide), ?_⟩
    by_cases z : q l j = k + 1
    · exact br_t ((pd_v_eq _ (hb l j) _ hk).mpr z) (h1 j (by omega) z)
    · refine br_f (fun y => z ((pd_v_eq _ (hb l j) _ hk).mp y)) (nm_r (nI_1 _) (ih (j + 1) (by omega) (fun t ht => ?_)))
      by_cases y : t = j
      · rw [y]; exact z
      · exact h t (by omega)
theorem yw_at {T L S : Nat} {n : Int32} {s pr vl rc : Nat → Int32} {q : Nat → Nat → Nat} {m : Nat → Nat → Int32} {post : Int32 → Prop} {l k : Nat} (hT : T ≤ 8) (hb : ∀ a b, q a b < 16) (hl : l < 12) (hk : k < 16) (h1 : ∀ t, t < T → q l t = k + 1 → post (nI t)) (h0 : (∀ t, t < T → q l t ≠ k + 1) → post (-1)) : wpY_at post (nI T, nI L, nI S, n, pd_yv q, pd_y m, s, pr, vl, rc) (nI l) (nI k) :=
  ⟨T + 1, yw_at_l hT hb hl hk h1 h0 T 0 (by omega) (fun t ht => by omega)⟩
theorem pd_yv_upd1 (q : Nat → Nat → Nat) {l t : Nat} (hl : l < 12) (k : Nat) : upd (pd_yv q) (t * 12 + l) (nI k) = pd_yv (pd_set q l t (k + 1)) := pd_yv_upd q hl (k + 1)
theorem yw_req_l {T L S : Nat} {n : Int32} {s pr vl rc : Nat → Int32} {q : Nat → Nat → Nat} {m : Nat → Nat → Int32} {post : Int32 → SY → Prop} {l t : Nat} (hT : T ≤ 8) (hb : ∀ a b, q a b < 16) (hl : l < 12) (ht : t < 8)
    (h1 : pd_n T (q l) = 0 → post 1 (nI T, nI L, nI S, n, pd_yv (pd_set q l t (pd_n T (q l) + 1)), pd_y (pd_set m l t 0), s, pr, vl, rc)) (h2 : pd_n T (q l) ≠ 0 → post 2 (nI T, nI L, nI S, n, pd_yv (pd_set q l t (pd_n T (q l) + 1)), pd_y (pd_set m l t 0), s, pr, vl, rc)) :
    ∀ d j, j + d = T → wY_request_38 post (nI t) (nI l) (nI T) (nI L) (nI S) n (pd_yv q) (pd_y m) s pr vl rc (d + 1) (nI (pd_n j (q l))) (nI j) := by
  intro d
  induction d with
  | zero =>
    intro j hj
    have e : j = T := by omega
    subst e
    have hn := pd_n_le j (q l)
    have hi : vp_in (nI (t * 12 + l)) 96 := vp_in_nI (by omega) (by decide)
    refine br_t (nI_le (Nat.le_refl _) (by omega)) ?_
    rw [pd_ix12, nI_clamp (n := t * 12 + l) (by omega), pd_yv_upd1 q hl, pd_b0, pd_y_upd m hl]
    refine ⟨hi, nm_e ⟨hi, nm_e ?_⟩⟩
    by_cases z : pd_n j (q l) = 0
    · exact br_t (by rw [z]; rfl) (h1 z)
    · exact br_f (nI_ne0 (by omega) (by omega)) (h2 z)
  | succ d ih =>
    intro j hj
    have i := ih (j + 1) (by omega)
    refine br_f (nI_ge (by omega) (by omega)) ?_
    rw [pd_ix12, nI_clamp (n := j * 12 + l) (by omega), pd_yv_at q hl]
    refine ⟨vp_in_nI (by omega) (by decide), ?_⟩
    by_cases z : q l j = 0
    · rw [pd_n_s0 z] at i
      exact br_t ((pd_v_none _ (hb l j)).mpr z) (nm_r (nI_1 _) i)
    · rw [pd_n_s1 z] at i
      exact br_f (fun y => z ((pd_v_none _ (hb l j)).mp y)) (nm_r (nI_1 _) (nm_r (nI_1 _) i))
/-! what is owed -/
theorem i_vc_begin {k : Nat} {u : SX} {v : SY} (I : i_Rel k u v) (hk : k + 3 ≤ 1539) (v1 : Int32) (v2 : Int32) : wpX_begin (fun r u' => wpY_begin (fun r' v' => r' = r ∧ i_Rel (k + 3) u' v') v v1 v2) u v1 v2 := by
  obtain ⟨T, L, S, c, q, m, s, st, hd, pr, vl, rc, b, R, rfl, rfl⟩ := I
  have hT := b.2.1
  unfold wpX_begin
  dsimp only
  have badY : (v1 < 0 ∨ nI T ≤ v1) → wpY_begin (fun r' v' => r' = 0 ∧ i_Rel (k + 3) (nI T, nI L, nI S, nI c, st, pr, hd, pd_xp (pd_p q), pd_x m, vl) v') (nI T, nI L, nI S, nI c, pd_yv q, pd_y m, s, pr, vl, rc) v1 v2 := fun h => by
    unfold wpY_begin
    dsimp only
    exact yw_isT_f h (br_t rfl ⟨rfl, pw_rel b R⟩)
  rcases pk_ix v1 (n := T) (by omega) with h | h | ⟨t, ht, rfl⟩
  · exact xw_isT_f (Or.inl h) (br_t rfl (badY (Or.inl h)))
  · exact xw_isT_f (Or.inr h) (br_t rfl (badY (Or.inr h)))
  · have hi : vp_in (nI t) 8 := vp_in_nI (by omega) (by decide)
    refine xw_isT_t hT ht (br_f (by decide) ?_)
    unfold wpY_begin
    dsimp only
    by_cases a : v2 < 0
    · exact br_t a (yw_isT_t hT ht (br_f (by decide) (br_t a ⟨rfl, pw_rel b R⟩)))
    · refine br_f a ?_
      by_cases d : 99 < v2
      · exact br_t d (yw_isT_t hT ht (br_f (by decide) (br_f a (br_t d ⟨rfl, pw_rel b R⟩))))
      · have hS := pd_S_live (R.2.2 t ht (by omega))
        rw [nI_clamp (n := t) (by omega)]
        refine br_f d (xw_live (by omega) (fun z => br_f (by decide) ?_) (fun z => br_t rfl ⟨hi, nm_e ⟨hi, nm_e ?_⟩⟩))
        · exact yw_isT_t hT ht (br_f (by decide) (br_f a (br_f d (yw_live hT ht (fun _ => br_f (by decide) ⟨rfl, pw_rel b R⟩) (fun y => absurd (hS.mp z) y)))))
        · exact yw_isT_t hT ht (br_f (by decide) (br_f a (br_f d (yw_live hT ht (fun y => absurd (hS.mpr y) z) (fun y => br_t rfl ⟨hi, nm_e ⟨hi, nm_e ⟨rfl, pw_rel b (pd_R_begin R ht y)⟩⟩⟩)))))
