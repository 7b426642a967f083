/-! the component's walks: whom a path reaches, and the lowest on a cycle -/
theorem xw_reach_in {T L S : Nat} {n : Int32} {st pr hd vl : Nat → Int32} {q : Nat → Nat → Nat} {m : Nat → Nat → Int32} {post : Int32 → Prop} {J : Int32 → Int32 → Prop} {al r : Int32} {x t k : Nat} {s : Nat → Int32} (hT : T ≤ 8) (hL : L ≤ 12) (R : pd_R x T L q m s st hd)
    (hb : ∀ y, pd_E T L q m t y → bt al y = true → bt r y = true)
    (hJ : ∀ r' : Int32, pd_pj T (pd_E T L q m) (fun y => bt al y = true) t (bt r) T 0 (bt r') → J r' (nI (k + 1))) :
    ∀ d j (r' : Int32), j + d = T → pd_pj T (pd_E T L q m) (fun y => bt al y = true) t (bt r) j 0 (bt r') → wX_reach_23 post J al (nI k) (nI T) (nI L) (nI S) n st pr hd (pd_xp (pd_p q)) (pd_x m) vl (d + 1) r' (nI j) := by
  intro d
  induction d with
  | zero =>
    intro j r' hj h
    have e : j = T := by omega
    subst e
    exact br_t (nI_le (Nat.le_refl _) (by omega)) (nm_r (nI_1 _) (hJ r' h))
  | succ d ih =>
    intro j r' hj h
    have hjT : j < T := by omega
    refine br_f (nI_ge (by omega) (by omega)) (xw_has (by omega) (fun c => br_f (by decide) (xw_rep hT hL R hjT (fun r5 h5 => nm_e (nm_r (nI_1 _) (ih (j + 1) _ (by omega) ?_))))) (fun c => br_t rfl (nm_r (nI_1 _) (ih (j + 1) r' (by omega) ?_))))
    · refine pd_pj_all (pd_E_lt T L q m) h hjT c (fun y hy => ?_)
      rw [b_or, b_and, Bool.or_eq_true, Bool.and_eq_true, h5 y (by omega)]
    · refine pd_pj_no hb (pd_E_lt T L q m) h hjT (fun y => ?_)
      rw [c] at y
      exact nomatch y
theorem xw_reach_out {T L S : Nat} {n : Int32} {st pr hd vl : Nat → Int32} {q : Nat → Nat → Nat} {m : Nat → Nat → Int32} {post : Int32 → Prop} {al : Int32} {x t : Nat} {s : Nat → Int32} (hT : T ≤ 8) (hL : L ≤ 12) (R : pd_R x T L q m s st hd) (ht : t < T)
    (hp : ∀ r : Int32, (∀ u, u < T → (bt r u = true ↔ pd_RC (pd_E T L q m) (fun y => bt al y = true) t u)) → post r) :
    ∀ d k (r : Int32), k + d = T → (∀ y, pd_E T L q m t y → bt al y = true → bt r y = true) → pd_po T (pd_E T L q m) (fun y => bt al y = true) t k (bt r) → wX_reach_11 post al (nI T) (nI L) (nI S) n st pr hd (pd_xp (pd_p q)) (pd_x m) vl (d + 1) r (nI (k + 1)) := by
  intro d
  induction d with
  | zero =>
    intro k r hk hb h
    have e : k = T := by omega
    subst e
    exact br_t (nI_lt (by omega) (by omega)) (hp r (pd_po_e (pd_E_lt k L q m) h))
  | succ d ih =>
    intro k r hk hb h
    refine br_f (nI_nlt (by omega) (by omega)) ⟨T + 1, xw_reach_in (r := r) (t := t) hT hL R hb (fun r' h' => ?_) T 0 r (by omega) (pd_pj_0 (bt r))⟩
    exact ih (k + 1) r' (by omega) (fun y hy py => h'.1 y (pd_E_lt T L q m _ _ hy) (hb y hy py)) (pd_po_s (pd_E_lt T L q m) ht h h')
theorem xw_reach {T L S : Nat} {n : Int32} {st pr hd vl : Nat → Int32} {q : Nat → Nat → Nat} {m : Nat → Nat → Int32} {post : Int32 → Prop} {al : Int32} {x t : Nat} {s : Nat → Int32} (hT2 : 2 ≤ T) (hT : T ≤ 8) (hL : L ≤ 12) (R : pd_R x T L q m s st hd) (ht : t < T)
    (hp : ∀ r : Int32, (∀ u, u < T → (bt r u = true ↔ pd_RC (pd_E T L q m) (fun y => bt al y = true) t u)) → post r) : wpX_reach post (nI T, nI L, nI S, n, st, pr, hd, pd_xp (pd_p q), pd_x m, vl) (nI t) al := by
  refine xw_rep hT hL R ht (fun r h => nm_e ⟨T, ?_⟩)
  have h1 : ∀ u, u < T → (bt (r &&& al) u = true ↔ (pd_E T L q m t u ∧ bt al u = true)) := fun u hu => by
    rw [b_and, Bool.and_eq_true, h u (by omega)]
  have i := xw_reach_out (S := S) (n := n) (pr := pr) (vl := vl) hT hL R ht hp (T - 1) 1 (r &&& al) (by omega) (fun y hy py => (h1 y (pd_E_lt T L q m _ _ hy)).mpr ⟨hy, py⟩) (pd_po_1 (pd_E_lt T L q m) h1)
  rw [show T - 1 + 1 = T by omega] at i
  exact i
theorem pd_C_255 {T L : Nat} {q : Nat → Nat → Nat} {m : Nat → Nat → Int32} {t : Nat} (hT : T ≤ 8) : pd_RC (pd_E T L q m) (fun y => bt 255 y = true) t t ↔ pd_C T L q m t :=
  pd_RC_congr (fun w x h => by
    have := pd_E_lt T L q m w x h
    rw [b_255, decide_eq_true_eq]
    exact ⟨fun _ => trivial, fun _ => by omega⟩) t t
theorem xw_low_l {T L S : Nat} {n : Int32} {st pr hd vl : Nat → Int32} {q : Nat → Nat → Nat} {m : Nat → Nat → Int32} {post : Int32 → Prop} {x : Nat} {s : Nat → Int32} (hT2 : 2 ≤ T) (hT : T ≤ 8) (hL : L ≤ 12) (R : pd_R x T L q m s st hd) (hp : post (pd_low (pd_C T L q m) pr T)) :
    ∀ d j, j + d = T → wX_lowestOnCycle_4 post (nI T) (nI L) (nI S) n st pr hd (pd_xp (pd_p q)) (pd_x m) vl (d + 1) (pd_low (pd_C T L q m) pr j) (nI j) := by
  intro d
  induction d with
  | zero =>
    intro j hj
    have e : j = T := by omega
    subst e
    exact br_t (nI_le (Nat.le_refl _) (by omega)) hp
  | succ d ih =>
    intro j hj
    have i := ih (j + 1) (by omega)
    have hjT : j < T := by omega
    refine br_f (nI_ge (by omega) (by omega)) (xw_reach hT2 hT hL R hjT (fun r h => xw_has (by omega) (fun c => br_f (by decide) ?_) (fun c => br_t rfl (nm_r (nI_1 _) ?_))))
    · have hC : pd_C T L q m j := (pd_C_255 hT).mp ((h j hjT).mp c)
      by_cases z : pd_low (pd_C T L q m) pr j = -1
      · rw [pd_low_t ⟨hC, Or.inl z⟩] at i
        exact br_t z (nm_r (nI_1 _) i)
      · refine br_f z ?_
        rcases pd_low_is (pd_C T L q m) pr j (by omega) with y | ⟨a, ha, e, _⟩
        · exact absurd y.1 z
        · have hcl : (pd_low (pd_C T L q m) pr j).toNatClampNeg = a := by rw [e, nI_clamp (by omega)]
          have i1 : pd_lt pr j a → wX_lowestOnCycle_4 post (nI T) (nI L) (nI S) n st pr hd (pd_xp (pd_p q)) (pd_x m) vl (d + 1) (nI j) (nI (j + 1)) := fun y => by
            rw [pd_low_t ⟨hC, Or.inr (by rw [hcl]; exact y)⟩] at i
            exact i
          have i0 : ¬ pd_lt pr j a → wX_lowestOnCycle_4 post (nI T) (nI L) (nI S) n st pr hd (pd_xp (pd_p q)) (pd_x m) vl (d + 1) (nI a) (nI (j + 1)) := fun y => by
            rw [pd_low_f (fun w => w.2.elim z (fun w => y (by rw [hcl] at w; exact w))), e] at i
            exact i
          rw [e]
          exact xw_lower (by omega) (by omega) (fun y => br_f (by decide) (nm_r (nI_1 _) (i1 y))) (fun y => br_t rfl (nm_r (nI_1 _) (i0 y)))
    · have hC : ¬ pd_C T L q m j := fun y => by
        rw [(h j hjT).mpr ((pd_C_255 hT).mpr y)] at c
        exact nomatch c
      rw [pd_low_f (fun y => hC y.1)] at i
      exact i
theorem xw_low {T L S : Nat} {n : Int32} {st pr hd vl : Nat → Int32} {q : Nat → Nat → Nat} {m : Nat → Nat → Int32} {post : Int32 → Prop} {x : Nat} {s : Nat → Int32} (hT2 : 2 ≤ T) (hT : T ≤ 8) (hL : L ≤ 12) (R : pd_R x T L q m s st hd) (hp : post (pd_low (pd_C T L q m) pr T)) : wpX_lowestOnCycle post (nI T, nI L, nI S, n, st, pr, hd, pd_xp (pd_p q), pd_x m, vl) :=
  ⟨T + 1, xw_low_l hT2 hT hL R hp T 0 (by omega)⟩
