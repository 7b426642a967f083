/-! the reference's walks: the spread of a probe -/
def pd_01 (rc : Nat → Int32) : Prop := ∀ u, u < 8 → rc u = 0 ∨ rc u = 1
def pd_f (rc : Nat → Int32) : Nat → Bool := fun u => decide (rc u ≠ 0)
theorem pd_01_u {rc : Nat → Int32} (h : pd_01 rc) (i : Nat) : pd_01 (upd rc i 1) := fun u hu => by
  by_cases z : u = i
  · rw [z]; exact Or.inr pk_us
  · rw [pk_un z]; exact h u hu
theorem pd_f_u {rc : Nat → Int32} {i : Nat} : pd_f (upd rc i 1) i = true := by
  show decide (upd rc i 1 i ≠ 0) = true
  rw [pk_us]
  decide
theorem pd_f_n {rc : Nat → Int32} {i u : Nat} (h : u ≠ i) : pd_f (upd rc i 1) u = pd_f rc u := by
  show decide (upd rc i 1 u ≠ 0) = decide (rc u ≠ 0)
  rw [pk_un h]
theorem pd_f_iff {rc : Nat → Int32} {u : Nat} : pd_f rc u = true ↔ rc u ≠ 0 := decide_eq_true_iff
theorem yw_sp_to {T L S : Nat} {n : Int32} {s pr vl : Nat → Int32} {q : Nat → Nat → Nat} {m : Nat → Nat → Int32} {post : SY → Prop} {J23 J34 : Int32 → (Nat → Int32) → (Nat → Int32) → (Nat → Int32) → (Nat → Int32) → (Nat → Int32) → (Nat → Int32) → Prop} {ho x3 : Int32} {t j : Nat} {P : Nat → Prop} {f0 : Nat → Bool}
    (hT : T ≤ 8) (hL : L ≤ 12) (hb : ∀ a b, q a b < 16) (ht : t < T) (hj : j < T) (hP : ∀ y, P y ↔ (ho = 0 ∨ pd_lt pr t y))
    (hJ : ∀ rc' : Nat → Int32, pd_01 rc' → pd_pj T (pd_E T L q m) P t f0 j T (pd_f rc') → J34 (nI (j + 1)) (pd_yv q) (pd_y m) s pr vl (rc')) :
    ∀ d i (rc : Nat → Int32), i + d = T → pd_01 rc → pd_pj T (pd_E T L q m) P t f0 j i (pd_f rc) → wY_spread_46 post J23 J34 (nI t) ho x3 (nI j) (nI T) (nI L) (nI S) n (d + 1) (nI i) (pd_yv q) (pd_y m) s pr vl rc := by
  intro d
  induction d with
  | zero =>
    intro i rc hi h01 h
    have e : i = T := by omega
    subst e
    exact br_t (nI_le (Nat.le_refl _) (by omega)) (nm_r (nI_1 _) (hJ rc h01 h))
  | succ d ih =>
    intro i rc hi h01 h
    have hiT : i < T := by omega
    have keep : ¬ ((j = t ∨ pd_f rc j = true) ∧ pd_E T L q m j i ∧ P i) → wY_spread_46 post J23 J34 (nI t) ho x3 (nI j) (nI T) (nI L) (nI S) n (d + 1) (nI (i + 1)) (pd_yv q) (pd_y m) s pr vl rc := fun c =>
      ih (i + 1) rc (by omega) h01 (pd_pj_f h hj c)
    have go : (j = t ∨ pd_f rc j = true) → wY_spread_71 post J23 J34 (wY_spread_46 post J23 J34 (nI t) ho x3 (nI j) (nI T) (nI L) (nI S) n (d + 1)) (nI t) ho x3 (nI j) (nI i) (nI T) (nI L) (nI S) n (pd_yv q) (pd_y m) s pr vl rc := fun c => by
      unfold wY_spread_71
      rw [nI_clamp (n := i) (by omega), pd_b1]
      have set : pd_E T L q m j i → P i → (vp_in (nI i) 8 ∧ ∀ a : Nat → Int32, a = upd rc i 1 → ∀ x : Int32, x = nI i + 1 → wY_spread_46 post J23 J34 (nI t) ho x3 (nI j) (nI T) (nI L) (nI S) n (d + 1) x (pd_yv q) (pd_y m) s pr vl a) := fun e pi =>
        ⟨vp_in_nI (by omega) (by decide), nm_e (nm_r (nI_1 _) (ih (i + 1) (upd rc i 1) (by omega) (pd_01_u h01 i) (pd_pj_t (pd_E_lt T L q m) h hj c e pi pd_f_u (fun x _ hx => pd_f_n hx))))⟩
      refine yw_waits hT hL hb hj hiT (fun e => br_t rfl ?_) (fun ne _ => br_f (by decide) (nm_r (nI_1 _) (keep (fun y => ne y.2.1)))) (fun ne _ => br_f (by decide) (nm_r (nI_1 _) (keep (fun y => ne y.2.1))))
      by_cases z : ho = 0
      · exact br_t z (set e ((hP i).mpr (Or.inl z)))
      · exact br_f z (yw_lower (by omega) (by omega) (fun y => br_f (by decide) (set e ((hP i).mpr (Or.inr y)))) (fun y => br_t rfl (nm_r (nI_1 _) (keep (fun w => ((hP i).mp w.2.2).elim z y)))))
    refine br_f (nI_ge (by omega) (by omega)) ?_
    by_cases jt : j = t
    · exact br_t (by rw [jt]) (go (Or.inl jt))
    · refine br_f (fun y => jt ((nI_eq (by omega) (by omega)).mp y)) ⟨vp_in_nI (by omega) (by decide), ?_⟩
      rw [nI_clamp (n := j) (by omega)]
      by_cases z : rc j = 0
      · exact br_t z (nm_r (nI_1 _) (keep (fun y => y.1.elim jt (fun w => (pd_f_iff.mp w) z))))
      · exact br_f z (go (Or.inr (pd_f_iff.mpr z)))
theorem yw_sp_from {T L S : Nat} {n : Int32} {s pr vl : Nat → Int32} {q : Nat → Nat → Nat} {m : Nat → Nat → Int32} {post : SY → Prop} {J23 : Int32 → (Nat → Int32) → (Nat → Int32) → (Nat → Int32) → (Nat → Int32) → (Nat → Int32) → (Nat → Int32) → Prop} {ho : Int32} {t k : Nat} {P : Nat → Prop} {f0 : Nat → Bool}
    (hT : T ≤ 8) (hL : L ≤ 12) (hb : ∀ a b, q a b < 16) (ht : t < T) (hP : ∀ y, P y ↔ (ho = 0 ∨ pd_lt pr t y))
    (hJ : ∀ rc' : Nat → Int32, pd_01 rc' → pd_pj T (pd_E T L q m) P t f0 T 0 (pd_f rc') → J23 (nI (k + 1)) (pd_yv q) (pd_y m) s pr vl (rc')) :
    ∀ d j (rc : Nat → Int32), j + d = T → pd_01 rc → pd_pj T (pd_E T L q m) P t f0 j 0 (pd_f rc) → wY_spread_34 post J23 (nI t) ho (nI k) (nI T) (nI L) (nI S) n (d + 1) (nI j) (pd_yv q) (pd_y m) s pr vl rc := by
  intro d
  induction d with
  | zero =>
    intro j rc hj h01 h
    have e : j = T := by omega
    subst e
    exact br_t (nI_le (Nat.le_refl _) (by omega)) (nm_r (nI_1 _) (hJ rc h01 h))
  | succ d ih =>
    intro j rc hj h01 h
    exact br_f (nI_ge (by omega) (by omega)) ⟨T + 1, yw_sp_to (f0 := f0) (P := P) hT hL hb ht (by omega) hP (fun rc' h01' h' => ih (j + 1) rc' (by omega) h01' (pd_pj_row (pd_E_lt T L q m) h')) T 0 rc (by omega) h01 h⟩
theorem yw_sp_pass {T L S : Nat} {n : Int32} {s pr vl : Nat → Int32} {q : Nat → Nat → Nat} {m : Nat → Nat → Int32} {post : SY → Prop} {ho : Int32} {t : Nat} {P : Nat → Prop}
    (hT : T ≤ 8) (hL : L ≤ 12) (hb : ∀ a b, q a b < 16) (ht : t < T) (hP : ∀ y, P y ↔ (ho = 0 ∨ pd_lt pr t y))
    (hp : ∀ rc' : Nat → Int32, pd_01 rc' → (∀ u, u < T → (rc' u ≠ 0 ↔ pd_RC (pd_E T L q m) P t u)) → post (nI T, nI L, nI S, n, pd_yv q, pd_y m, s, pr, vl, rc')) :
    ∀ d k (rc : Nat → Int32), k + d = T → pd_01 rc → pd_po T (pd_E T L q m) P t k (pd_f rc) → wY_spread_23 post (nI t) ho (nI T) (nI L) (nI S) n (d + 1) (nI k) (pd_yv q) (pd_y m) s pr vl rc := by
  intro d
  induction d with
  | zero =>
    intro k rc hk h01 h
    have e : k = T := by omega
    subst e
    exact br_t (nI_le (Nat.le_refl _) (by omega)) (hp rc h01 (fun u hu => pd_f_iff.symm.trans (pd_po_e (pd_E_lt k L q m) h u hu)))
  | succ d ih =>
    intro k rc hk h01 h
    exact br_f (nI_ge (by omega) (by omega)) ⟨T + 1, yw_sp_from (f0 := pd_f rc) (P := P) hT hL hb ht hP (fun rc' h01' h' => ih (k + 1) rc' (by omega) h01' (pd_po_s (pd_E_lt T L q m) ht h h')) T 0 rc (by omega) h01 (pd_pj_0 (pd_f rc))⟩
theorem yw_sp_clear {T L S : Nat} {n : Int32} {s pr vl : Nat → Int32} {q : Nat → Nat → Nat} {m : Nat → Nat → Int32} {post : SY → Prop} {ho : Int32} {t : Nat} (K : ∀ rc' : Nat → Int32, (∀ u, u < 8 → rc' u = 0) → ∃ k, wY_spread_23 post (nI t) ho (nI T) (nI L) (nI S) n k 0 (pd_yv q) (pd_y m) s pr vl (rc')) :
    ∀ d j (rc : Nat → Int32), j + d = 8 → (∀ u, u < j → rc u = 0) → wY_spread_2 post (nI t) ho (nI T) (nI L) (nI S) n (d + 1) (nI j) (pd_yv q) (pd_y m) s pr vl rc := by
  intro d
  induction d with
  | zero =>
    intro j rc hj h
    exact br_t (nI_le (a := 8) (by omega) (by omega)) (K rc (fun u hu => h u (by omega)))
  | succ d ih =>
    intro j rc hj h
    refine br_f (nI_ge (b := 8) (by omega) (by decide)) ⟨vp_in_nI (by omega) (by decide), ?_⟩
    rw [nI_clamp (n := j) (by omega), pd_b0]
    refine nm_e (nm_r (nI_1 _) (ih (j + 1) _ (by omega) (fun u hu => ?_)))
    by_cases z : u = j
    · rw [z]; exact pk_us
    · rw [pk_un z]; exact h u (by omega)
theorem yw_spread {T L S : Nat} {n : Int32} {s pr vl rc : Nat → Int32} {q : Nat → Nat → Nat} {m : Nat → Nat → Int32} {post : SY → Prop} {ho : Int32} {t : Nat} {P : Nat → Prop}
    (hT : T ≤ 8) (hL : L ≤ 12) (hb : ∀ a b, q a b < 16) (ht : t < T) (hP : ∀ y, P y ↔ (ho = 0 ∨ pd_lt pr t y))
    (hp : ∀ rc' : Nat → Int32, pd_01 rc' → (∀ u, u < T → (rc' u ≠ 0 ↔ pd_RC (pd_E T L q m) P t u)) → post (nI T, nI L, nI S, n, pd_yv q, pd_y m, s, pr, vl, rc')) : wpY_spread post (nI T, nI L, nI S, n, pd_yv q, pd_y m, s, pr, vl, rc) (nI t) ho :=
  ⟨9, yw_sp_clear (fun rc' h => ⟨T + 1, yw_sp_pass (P := P) hT hL hb ht hP hp T 0 rc' (by omega) (fun u hu => Or.inl (h u hu)) (pd_po_0 (fun u hu => decide_eq_false (fun z => z (h u (by omega)))))⟩) 8 0 rc (by omega) (fun u hu => by omega)⟩
/-! the lowest, as the reference looks for it; then its end -/
theorem yw_low_l {T L S : Nat} {n : Int32} {s pr vl : Nat → Int32} {q : Nat → Nat → Nat} {m : Nat → Nat → Int32} {post : Int32 → SY → Prop} {J7 : Int32 → Int32 → Int32 → Int32 → Int32 → (Nat → Int32) → (Nat → Int32) → (Nat → Int32) → (Nat → Int32) → (Nat → Int32) → (Nat → Int32) → Prop} {r : Nat}
    (hT : T ≤ 8) (hL : L ≤ 12) (hb : ∀ a b, q a b < 16) (hr : r < 8)
    (k0 : pd_low (pd_C T L q m) pr T = -1 → ∀ rc : Nat → Int32, post n (nI T, nI L, nI S, n, pd_yv q, pd_y m, s, pr, vl, rc))
    (k1 : ∀ v, v < T → pd_low (pd_C T L q m) pr T = nI v → ∀ rc : Nat → Int32, J7 (nI (r + 1)) (nI T) (nI L) (nI S) (nI (r + 1)) (pd_yv ((pd_end T L v q m).1)) (pd_y ((pd_end T L v q m).2)) (upd s v 3) pr (upd vl r (nI v)) rc) :
    ∀ d j (rc : Nat → Int32), j + d = T → wY_resolve_17 post J7 (nI r) (d + 1) (pd_low (pd_C T L q m) pr j) (nI j) (nI T) (nI L) (nI S) n (pd_yv q) (pd_y m) s pr vl rc := by
  intro d
  induction d with
  | zero =>
    intro j rc hj
    have e : j = T := by omega
    subst e
    refine br_t (nI_le (Nat.le_refl _) (by omega)) ?_
    rcases pd_low_is (pd_C j L q m) pr j hT with y | ⟨v, hv, e, _⟩
    · exact br_t y.1 (k0 y.1 rc)
    · have k2 := k1 v hv e rc
      rw [e, nI_clamp (n := r) (by omega)]
      exact br_f (pd_m1 v (by omega)) ⟨vp_in_nI hr (by decide), nm_e (nm_r (nI_1 _) (yw_end hT hL (by omega) hb (nm_r (nI_1 _) k2)))⟩
  | succ d ih =>
    intro j rc hj
    have hjT : j < T := by omega
    refine br_f (nI_ge (by omega) (by omega)) (yw_spread (P := fun _ => True) hT hL hb hjT (fun _ => ⟨fun _ => Or.inl rfl, fun _ => trivial⟩) (fun rc' h01 h => ?_))
    have i := ih (j + 1) rc' (by omega)
    dsimp only
    rw [nI_clamp (n := j) (by omega)]
    refine ⟨vp_in_nI (by omega) (by decide), ?_⟩
    by_cases c : rc' j = 0
    · have hC : ¬ pd_C T L q m j := fun y => ((h j hjT).mpr y) c
      rw [pd_low_f (fun y => hC y.1)] at i
      exact br_t c (nm_r (nI_1 _) i)
    · have hC : pd_C T L q m j := (h j hjT).mp c
      refine br_f c ?_
      by_cases z : pd_low (pd_C T L q m) pr j = -1
      · rw [pd_low_t ⟨hC, Or.inl z⟩] at i
        exact br_t z (nm_r (nI_1 _) i)
      · refine br_f z ?_
        rcases pd_low_is (pd_C T L q m) pr j (by omega) with y | ⟨a, ha, e, _⟩
        · exact absurd y.1 z
        · have hcl : (pd_low (pd_C T L q m) pr j).toNatClampNeg = a := by rw [e, nI_clamp (by omega)]
          have i1 : pd_lt pr j a → wY_resolve_17 post J7 (nI r) (d + 1) (nI j) (nI (j + 1)) (nI T) (nI L) (nI S) n (pd_yv q) (pd_y m) s pr vl (rc') := fun y => by
            rw [pd_low_t ⟨hC, Or.inr (by rw [hcl]; exact y)⟩] at i
            exact i
          have i0 : ¬ pd_lt pr j a → wY_resolve_17 post J7 (nI r) (d + 1) (nI a) (nI (j + 1)) (nI T) (nI L) (nI S) n (pd_yv q) (pd_y m) s pr vl (rc') := fun y => by
            rw [pd_low_f (fun w => w.2.elim z (fun w => y (by rw [hcl] at w; exact w))), e] at i
            exact i
          rw [e]
          exact yw_lower (by omega) (by omega) (fun y => br_f (by decide) (nm_r (nI_1 _) (i1 y))) (fun y => br_t rfl (nm_r (nI_1 _) (i0 y)))
