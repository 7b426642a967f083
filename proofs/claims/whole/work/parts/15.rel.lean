/-! the relation, the constructors -/
def i_Rel (k : Nat) (u : SX) (v : SY) : Prop :=
  ∃ (T L S c : Nat) (q : Nat → Nat → Nat) (m : Nat → Nat → Int32) (s st hd pr vl rc : Nat → Int32),
    (2 ≤ T ∧ T ≤ 8 ∧ L ≤ 12 ∧ 1 ≤ S ∧ S ≤ 4 ∧ c ≤ 8) ∧ pd_R 8 T L q m s st hd ∧ u = (nI T, nI L, nI S, nI c, st, pr, hd, pd_xp (pd_p q), pd_x m, vl) ∧ v = (nI T, nI L, nI S, nI c, pd_yv q, pd_y m, s, pr, vl, rc)
theorem pw_rel {T L S c k : Nat} {q : Nat → Nat → Nat} {m : Nat → Nat → Int32} {s st hd pr vl rc : Nat → Int32} (b : 2 ≤ T ∧ T ≤ 8 ∧ L ≤ 12 ∧ 1 ≤ S ∧ S ≤ 4 ∧ c ≤ 8) (R : pd_R 8 T L q m s st hd) : i_Rel k (nI T, nI L, nI S, nI c, st, pr, hd, pd_xp (pd_p q), pd_x m, vl) (nI T, nI L, nI S, nI c, pd_yv q, pd_y m, s, pr, vl, rc) :=
  ⟨T, L, S, c, q, m, s, st, hd, pr, vl, rc, b, R, rfl, rfl⟩
theorem i_up {k : Nat} {u : SX} {v : SY} (h : i_Rel k u v) : i_Rel (k + 3) u v := h
theorem pw_clamp (x : Int32) (lo hi : Nat) (h : lo ≤ hi) (hh : hi < 2 ^ 31) : ∃ T, lo ≤ T ∧ T ≤ hi ∧ (∀ post : Int32 → Prop, post (nI T) → wpX_clamp post x (nI lo) (nI hi)) ∧ (∀ (f1 f2 f3 f4 : Int32) (a1 a2 a3 a4 a5 a6 : Nat → Int32) (post : Int32 → Prop), post (nI T) → wpY_clamp post (f1, f2, f3, f4, a1, a2, a3, a4, a5, a6) x (nI lo) (nI hi)) := by
  by_cases h1 : nI lo ≤ x
  · have h0 : ¬ x < 0 := Int32.not_lt.mpr (Int32.le_trans (nI_pos' (by omega)) h1)
    obtain ⟨j, hj, rfl⟩ := nI_of h0
    have hlj : lo ≤ j := (nI_leI (by omega) hj).mp h1
    by_cases h2 : j ≤ hi
    · exact ⟨j, hlj, h2, fun _ hp => br_t h1 (br_t (nI_le h2 hh) hp), fun _ _ _ _ _ _ _ _ _ _ _ hp => br_t h1 (br_t (nI_le h2 hh) hp)⟩
    · exact ⟨hi, h, Nat.le_refl _, fun _ hp => br_t h1 (br_f (nI_ge (by omega) hj) hp), fun _ _ _ _ _ _ _ _ _ _ _ hp => br_t h1 (br_f (nI_ge (by omega) hj) hp)⟩
  · exact ⟨lo, Nat.le_refl _, h, fun _ hp => br_f h1 hp, fun _ _ _ _ _ _ _ _ _ _ _ hp => br_f h1 hp⟩
def pw_fill (j : Nat) : Nat → Int32 := fun c => if c < j then -1 else 0
theorem pw_fill_0 : pw_fill 0 = fun _ => 0 := by
  funext c
  exact if_neg (Nat.not_lt_zero c)
theorem pw_fill_s (j : Nat) : upd (pw_fill j) j (-1) = pw_fill (j + 1) := by
  funext c
  have key : (c = j ∨ c < j) ↔ c < j + 1 := by omega
  exact pd_if2 key
theorem pw_ix {post : SX → Prop} {f1 f2 f3 f4 : Int32} {a1 a2 a4 a5 a6 : Nat → Int32} (hp : post (f1, f2, f3, f4, a1, a2, pw_fill 12, a4, a5, a6)) :
    ∀ d j, j + d = 12 → wX_init_87 post f1 f2 f3 f4 (d + 1) (nI j) a1 a2 (pw_fill j) a4 a5 a6 := by
  intro d
  induction d with
  | zero =>
    intro j hj
    have e : j = 12 := by omega
    subst e
    exact br_t (nI_le (a := 12) (by omega) (by omega)) hp
  | succ d ih =>
    intro j hj
    refine br_f (nI_ge (b := 12) (by omega) (by decide)) ⟨vp_in_nI (by omega) (by decide), ?_⟩
    rw [nI_clamp (n := j) (by omega), pw_fill_s]
    exact nm_e (nm_r (nI_1 _) (ih (j + 1) (by omega)))
theorem pw_iy {post : SY → Prop} {f1 f2 f3 f4 : Int32} {a2 a3 a4 a5 a6 : Nat → Int32} (hp : post (f1, f2, f3, f4, pw_fill 96, a2, a3, a4, a5, a6)) :
    ∀ d j, j + d = 96 → wY_init_90 post f1 f2 f3 f4 (d + 1) (nI j) (pw_fill j) a2 a3 a4 a5 a6 := by
  intro d
  induction d with
  | zero =>
    intro j hj
    have e : j = 96 := by omega
    subst e
    exact br_t (nI_le (a := 96) (by omega) (by omega)) hp
  | succ d ih =>
    intro j hj
    refine br_f (nI_ge (b := 96) (by omega) (by decide)) ⟨vp_in_nI (by omega) (by decide), ?_⟩
    rw [nI_clamp (n := j) (by omega), pw_fill_s]
    exact nm_e (nm_r (nI_1 _) (ih (j + 1) (by omega)))
def pw_q0 : Nat → Nat → Nat := fun _ b => if b < 8 then 0 else 1
theorem pw_q0_lt {a b : Nat} (h : b < 8) : pw_q0 a b = 0 := if_pos h
theorem pw_y0 : pw_fill 96 = pd_yv pw_q0 := by
  funext c
  by_cases h : c < 96
  · have e : pw_fill 96 c = -1 := if_pos h
    have e2 : pw_q0 (c % 12) (c / 12) = 0 := if_pos (by omega)
    rw [e]
    show -1 = pd_v (pw_q0 (c % 12) (c / 12))
    rw [e2]
    rfl
  · have e : pw_fill 96 c = 0 := if_neg h
    have e2 : pw_q0 (c % 12) (c / 12) = 1 := if_neg (by omega)
    rw [e]
    show 0 = pd_v (pw_q0 (c % 12) (c / 12))
    rw [e2]
    rfl
theorem pw_x0 : (fun _ => 0 : Nat → Int32) = pd_xp (pd_p pw_q0) := by
  funext c
  have e2 : pw_q0 (c / 8) (c % 8) = 0 := if_pos (by omega)
  show 0 = nI (pw_q0 (c / 8) (c % 8) - 1)
  rw [e2]
  rfl
theorem pw_n0 {f : Nat → Nat} : ∀ T, (∀ t, t < T → f t = 0) → pd_n T f = 0 := by
  intro T
  induction T with
  | zero => intro _; rfl
  | succ T ih =>
    intro h
    rw [pd_n_s0 (h T (by omega))]
    exact ih (fun t ht => h t (by omega))
theorem pw_01 : ¬ (0 : Int32) = 1 := by decide
theorem pw_R0 {T L : Nat} (hT : T ≤ 8) (hL : L ≤ 12) : pd_R 8 T L pw_q0 (fun _ _ => 0) (fun _ => 0) (fun _ => 0) (pw_fill 12) := by
  refine ⟨⟨fun l _ => ?_, fun l t _ _ c => absurd rfl c, fun l t _ ht c => absurd (pw_q0_lt (by omega)) c, fun l t => ?_⟩, fun l hl => ⟨fun t ht e => ?_, fun _ => if_pos (by omega)⟩, fun t ht _ => ⟨Or.inl rfl, fun c => absurd c pw_01, fun c => absurd c pw_01, fun _ => rfl⟩⟩
  · have n0 : pd_n T (pw_q0 l) = 0 := pw_n0 T (fun t ht => pw_q0_lt (by omega))
    refine ⟨fun t ht => ?_, fun k k0 kn => ?_, fun t u ht _ _ c => absurd (pw_q0_lt (by omega)) c⟩
    · rw [pw_q0_lt (by omega)]; omega
    · omega
  · unfold pw_q0
    split <;> omega
  · rw [pw_q0_lt (by omega)] at e
    omega
theorem i_vc0 (k0 : Int32) (k1 : Int32) (k2 : Int32) : wpX_init (fun u => wpY_init (fun v => i_Rel 3 u v) k0 k1 k2) k0 k1 k2 := by
  obtain ⟨T, hT2, hT, cX, cY⟩ := pw_clamp k0 2 8 (by omega) (by omega)
  obtain ⟨L, hL1, hL, dX, dY⟩ := pw_clamp k1 1 12 (by omega) (by omega)
  obtain ⟨S, hS1, hS, eX, eY⟩ := pw_clamp k2 1 4 (by omega) (by omega)
  have z0 : (fun _ => 0 : Nat → Int32) = pw_fill 0 := pw_fill_0.symm
  unfold wpX_init
  refine cX _ (dX _ (eX _ ⟨13, ?_⟩))
  have ix := pw_ix (post := fun u => wpY_init (fun v => i_Rel 3 u v) k0 k1 k2) (f1 := nI T) (f2 := nI L) (f3 := nI S) (f4 := 0) (a1 := fun _ => 0) (a2 := fun _ => 0) (a4 := fun _ => 0) (a5 := fun _ => 0) (a6 := fun _ => 0) ?_ 12 0 (by omega)
  · rw [pw_fill_0] at ix
    exact ix
  · unfold wpY_init
    refine cY _ _ _ _ _ _ _ _ _ _ _ (dY _ _ _ _ _ _ _ _ _ _ _ (eY _ _ _ _ _ _ _ _ _ _ _ ⟨97, ?_⟩))
    have iy := pw_iy (post := fun v => i_Rel 3 (nI T, nI L, nI S, 0, fun _ => 0, fun _ => 0, pw_fill 12, fun _ => 0, fun _ => 0, fun _ => 0) v) (f1 := nI T) (f2 := nI L) (f3 := nI S) (f4 := 0) (a2 := fun _ => 0) (a3 := fun _ => 0) (a4 := fun _ => 0) (a5 := fun _ => 0) (a6 := fun _ => 0) ?_ 96 0 (by omega)
    · rw [pw_fill_0] at iy
      exact iy
    · refine ⟨T, L, S, 0, pw_q0, fun _ _ => 0, fun _ => 0, fun _ => 0, pw_fill 12, fun _ => 0, fun _ => 0, fun _ => 0, ⟨hT2, hT, hL, hS1, hS, by omega⟩, pw_R0 hT hL, ?_, ?_⟩
      · rw [← pw_x0]
        rfl
      · rw [← pw_y0]
        rfl
