/-! the law's own search for a cycle -/
def pe_g (g : Int64) (a b : Nat) : Prop := a < 8 ∧ b < 8 ∧ pl g (8 * a + b) = true
theorem pe_g_lt (g : Int64) (a b : Nat) (h : pe_g g a b) : b < 8 := h.2.1
theorem lc_in {post : Int32 → Prop} {J : Int32 → Int32 → Prop} {g : Int64} {al r x2 : Int32} {v k : Nat}
    (hb : ∀ y, pe_g g v y → bt al y = true → bt r y = true)
    (hJ : ∀ r' : Int32, pd_pj 8 (pe_g g) (fun y => bt al y = true) v (bt r) 8 0 (bt r') → J r' (nI (k + 1))) :
    ∀ d j (r' : Int32), j + d = 8 → pd_pj 8 (pe_g g) (fun y => bt al y = true) v (bt r) j 0 (bt r') → wL_cycle_22 post J g x2 al (nI k) (d + 1) r' (nI j) := by
  intro d
  induction d with
  | zero =>
    intro j r' hj h
    have e : j = 8 := by omega
    subst e
    exact br_t (nI_le (a := 8) (by omega) (by omega)) (nm_r (nI_1 _) (hJ r' h))
  | succ d ih =>
    intro j r' hj h
    have hj8 : j < 8 := by omega
    refine br_f (nI_ge (b := 8) (by omega) (by decide)) ?_
    by_cases c : bt r' j = true
    · refine br_t ((pl_t1 r' (by omega)).mpr c) (nm_e (nm_r (nI_1 _) (ih (j + 1) _ (by omega) ?_)))
      refine pd_pj_all (pe_g_lt g) h hj8 c (fun y hy => ?_)
      rw [b_or, b_and, Bool.or_eq_true, Bool.and_eq_true, pl_row g hj8 (by omega)]
      simp only [hy, decide_true, Bool.true_and]
      exact ⟨fun z => z.elim Or.inl (fun w => Or.inr ⟨⟨hj8, hy, w.1⟩, w.2⟩), fun z => z.elim Or.inl (fun w => Or.inr ⟨w.1.2.2, w.2⟩)⟩
    · exact br_f (fun z => c ((pl_t1 r' (by omega)).mp z)) (nm_r (nI_1 _) (ih (j + 1) r' (by omega) (pd_pj_no hb (pe_g_lt g) h hj8 c)))
theorem lc_scan {post : Int32 → Prop} {g : Int64} {r : Int32} {v : Nat} (hv : v < 8) (h1 : (∃ u, u < 8 ∧ bt r u = true ∧ pe_g g u v) → post 1) (h0 : ¬ (∃ u, u < 8 ∧ bt r u = true ∧ pe_g g u v) → post 0) :
    ∀ d j, j + d = 8 → (∀ u, u < j → ¬ (bt r u = true ∧ pe_g g u v)) → wL_cycle_68 post g (nI v) r (d + 1) (nI j) := by
  intro d
  induction d with
  | zero =>
    intro j hj h
    exact br_t (nI_le (a := 8) (by omega) (by omega)) (h0 (fun ⟨u, hu, z⟩ => h u (by omega) z))
  | succ d ih =>
    intro j hj h
    have hj8 : j < 8 := by omega
    have go : ¬ (bt r j = true ∧ pe_g g j v) → wL_cycle_68 post g (nI v) r (d + 1) (nI (j + 1)) := fun c => ih (j + 1) (by omega) (fun u hu => by
      by_cases z : u = j
      · rw [z]; exact c
      · exact h u (by omega))
    refine br_f (nI_ge (b := 8) (by omega) (by decide)) ?_
    by_cases c : bt r j = true
    · refine br_t ((pl_t1 r (by omega)).mpr c) ?_
      have key : bt ((((g.toUInt64 >>> ((8 * nI j).toInt64.toUInt64 &&& Int64.toUInt64 63)).toInt64).toInt32) &&& 255) v = true ↔ pe_g g j v := by
        rw [pl_row g hj8 (by omega)]
        simp only [hv, decide_true, Bool.true_and]
        exact ⟨fun z => ⟨hj8, hv, z⟩, fun z => z.2.2⟩
      by_cases z : pe_g g j v
      · exact br_t ((pl_t1 _ (by omega)).mpr (key.mpr z)) (h1 ⟨j, hj8, c, z⟩)
      · exact br_f (fun y => z (key.mp ((pl_t1 _ (by omega)).mp y))) (nm_r (nI_1 _) (go (fun w => z w.2)))
    · exact br_f (fun z => c ((pl_t1 r (by omega)).mp z)) (nm_r (nI_1 _) (go (fun w => c w.1)))
theorem lc_out {post : Int32 → Prop} {g : Int64} {al : Int32} {v : Nat} (hv : v < 8) (h1 : pe_D (pe_g g) (fun y => bt al y = true) v → post 1) (h0 : ¬ pe_D (pe_g g) (fun y => bt al y = true) v → post 0) :
    ∀ d k (r : Int32), k + d = 8 → (∀ y, pe_g g v y → bt al y = true → bt r y = true) → pd_po 8 (pe_g g) (fun y => bt al y = true) v (k + 1) (bt r) → wL_cycle_12 post g (nI v) al (d + 1) r (nI k) := by
  intro d
  induction d with
  | zero =>
    intro k r hk hb h
    have h8 : pd_po 8 (pe_g g) (fun y => bt al y = true) v 8 (bt r) := ⟨h.1, h.2.elim Or.inl (fun z => Or.inr (by omega))⟩
    have hr := pd_po_e (pe_g_lt g) h8
    have key : (∃ u, u < 8 ∧ bt r u = true ∧ pe_g g u v) ↔ pe_D (pe_g g) (fun y => bt al y = true) v :=
      ⟨fun ⟨u, hu, a, b⟩ => ⟨u, (hr u hu).mp a, b⟩, fun ⟨u, a, b⟩ => ⟨u, b.1, (hr u b.1).mpr a, b⟩⟩
    exact br_t (nI_le (a := 8) (by omega) (by omega)) ⟨9, lc_scan hv (fun z => h1 (key.mp z)) (fun z => h0 (fun y => z (key.mpr y))) 8 0 (by omega) (fun u hu => by omega)⟩
  | succ d ih =>
    intro k r hk hb h
    refine br_f (nI_ge (b := 8) (by omega) (by decide)) ⟨9, lc_in (r := r) (v := v) hb (fun r' h' => ?_) 8 0 r (by omega) (pd_pj_0 (bt r))⟩
    exact ih (k + 1) r' (by omega) (fun y hy py => h'.1 y (pe_g_lt g _ _ hy) (hb y hy py)) (pd_po_s (pe_g_lt g) hv h h')
theorem lc_cycle {post : Int32 → Prop} {g : Int64} {al : Int32} {v : Nat} (hv : v < 8) (h1 : pe_D (pe_g g) (fun y => bt al y = true) v → post 1) (h0 : ¬ pe_D (pe_g g) (fun y => bt al y = true) v → post 0) : wpL_cycle post () g (nI v) al := by
  refine nm_e ⟨9, ?_⟩
  have hr : ∀ u, u < 8 → (bt ((((((g.toUInt64 >>> ((8 * nI v).toInt64.toUInt64 &&& Int64.toUInt64 63)).toInt64).toInt32) &&& 255)) &&& al) u = true ↔ (pe_g g v u ∧ bt al u = true)) := fun u hu => by
    rw [b_and, Bool.and_eq_true, pl_row g hv (by omega)]
    simp only [hu, decide_true, Bool.true_and]
    exact ⟨fun z => ⟨⟨hv, hu, z.1⟩, z.2⟩, fun z => ⟨z.1.2.2, z.2⟩⟩
  exact lc_out hv h1 h0 8 0 _ (by omega) (fun y hy py => (hr y (pe_g_lt g _ _ hy)).mpr ⟨hy, py⟩) (pd_po_1 (pe_g_lt g) hr)
theorem lc_cyc_l {post : Int32 → Prop} {g : Int64} (h : ∀ v, v < 8 → ¬ pe_C (pe_g g) v) (hp : post 0) : ∀ d j, j + d = 8 → wL_cyclic_2 post g (d + 1) (nI j) := by
  intro d
  induction d with
  | zero =>
    intro j hj
    exact br_t (nI_le (a := 8) (by omega) (by omega)) hp
  | succ d ih =>
    intro j hj
    refine br_f (nI_ge (b := 8) (by omega) (by decide)) (lc_cycle (by omega) (fun z => ?_) (fun _ => br_t rfl (nm_r (nI_1 _) (ih (j + 1) (by omega)))))
    obtain ⟨u, a, b⟩ := z
    exact absurd ((pd_RC_cl (pe_g g) (fun _ => True) j).2 u j (pe_mono (fun x y w _ => ⟨w, trivial⟩) a) b trivial) (h j (by omega))
theorem lc_cyclic {post : Int32 → Prop} {g : Int64} (h : ∀ v, v < 8 → ¬ pe_C (pe_g g) v) (hp : post 0) : wpL_cyclic post () g :=
  ⟨9, lc_cyc_l h hp 8 0 (by omega)⟩
