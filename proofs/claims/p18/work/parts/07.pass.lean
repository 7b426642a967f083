/-! one pass over all rows, cell by cell: f0 is the set as the pass began, f as it is at row j, cell i -/
def pd_pj (T : Nat) (E : Nat → Nat → Prop) (P : Nat → Prop) (t : Nat) (f0 : Nat → Bool) (j i : Nat) (f : Nat → Bool) : Prop :=
  (∀ u, u < T → f0 u = true → f u = true) ∧
  (∀ S : Nat → Prop, pd_cl E P t S → (∀ u, u < T → f0 u = true → S u) → ∀ u, u < T → f u = true → S u) ∧
  (∀ w, w < T → w < j → (w = t ∨ f0 w = true) → ∀ x, E w x → P x → f x = true) ∧
  (∀ x, x < i → (j = t ∨ f0 j = true) → E j x → P x → f x = true)
theorem pd_pj_0 {T : Nat} {E : Nat → Nat → Prop} {P : Nat → Prop} {t : Nat} (f0 : Nat → Bool) : pd_pj T E P t f0 0 0 f0 :=
  ⟨fun _ _ h => h, fun _ _ h => h, fun _ _ h => by omega, fun _ h => by omega⟩
theorem pd_pj_row {T : Nat} {E : Nat → Nat → Prop} {P : Nat → Prop} {t : Nat} {f0 f : Nat → Bool} {j : Nat} (hE : ∀ a b, E a b → b < T) (h : pd_pj T E P t f0 j T f) : pd_pj T E P t f0 (j + 1) 0 f :=
  ⟨h.1, h.2.1, fun w hw hj c x hx px => by
    by_cases e : w = j
    · subst e; exact h.2.2.2 x (hE _ _ hx) c hx px
    · exact h.2.2.1 w hw (by omega) c x hx px, fun _ h => by omega⟩
theorem pd_pj_t {T : Nat} {E : Nat → Nat → Prop} {P : Nat → Prop} {t : Nat} {f0 f f' : Nat → Bool} {j i : Nat} (hE : ∀ a b, E a b → b < T) (h : pd_pj T E P t f0 j i f) (hj : j < T) (c : j = t ∨ f j = true) (e : E j i) (p : P i)
    (hi : f' i = true) (hf : ∀ x, x < T → x ≠ i → f' x = f x) : pd_pj T E P t f0 j (i + 1) f' := by
  have up : ∀ x, x < T → f x = true → f' x = true := fun x hx y => by
    by_cases z : x = i
    · rw [z]; exact hi
    · rw [hf x hx z]; exact y
  refine ⟨fun u hu y => up u hu (h.1 u hu y), fun S hS h0 u hu y => ?_, fun w hw hwj d x hx px => up x (hE _ _ hx) (h.2.2.1 w hw hwj d x hx px), fun x hx d ex px => ?_⟩
  · by_cases z : u = i
    · rw [z]
      rcases c with c | c
      · rw [c] at e; exact hS.1 i e p
      · exact hS.2 j i (h.2.1 S hS h0 j hj c) e p
    · rw [hf u hu z] at y
      exact h.2.1 S hS h0 u hu y
  · by_cases z : x = i
    · rw [z]; exact hi
    · exact up x (hE _ _ ex) (h.2.2.2 x (by omega) d ex px)
theorem pd_pj_f {T : Nat} {E : Nat → Nat → Prop} {P : Nat → Prop} {t : Nat} {f0 f : Nat → Bool} {j i : Nat} (h : pd_pj T E P t f0 j i f) (hj : j < T) (n : ¬ ((j = t ∨ f j = true) ∧ E j i ∧ P i)) : pd_pj T E P t f0 j (i + 1) f := by
  refine ⟨h.1, h.2.1, h.2.2.1, fun x hx d ex px => ?_⟩
  by_cases z : x = i
  · rw [z] at ex px
    exact absurd ⟨d.elim Or.inl (fun y => Or.inr (h.1 j hj y)), ex, px⟩ n
  · exact h.2.2.2 x (by omega) d ex px
/-- a whole row at once -/
theorem pd_pj_all {T : Nat} {E : Nat → Nat → Prop} {P : Nat → Prop} {t : Nat} {f0 f f' : Nat → Bool} {j : Nat} (hE : ∀ a b, E a b → b < T) (h : pd_pj T E P t f0 j 0 f) (hj : j < T) (c : f j = true)
    (hf : ∀ x, x < T → (f' x = true ↔ f x = true ∨ (E j x ∧ P x))) : pd_pj T E P t f0 (j + 1) 0 f' := by
  have up : ∀ x, x < T → f x = true → f' x = true := fun x hx y => (hf x hx).mpr (Or.inl y)
  refine ⟨fun u hu y => up u hu (h.1 u hu y), fun S hS h0 u hu y => ?_, fun w hw hwj d x hx px => ?_, fun x hx => by omega⟩
  · rcases (hf u hu).mp y with z | z
    · exact h.2.1 S hS h0 u hu z
    · exact hS.2 j u (h.2.1 S hS h0 j hj c) z.1 z.2
  · by_cases z : w = j
    · rw [z] at hx
      exact (hf x (hE _ _ hx)).mpr (Or.inr ⟨hx, px⟩)
    · exact up x (hE _ _ hx) (h.2.2.1 w hw (by omega) d x hx px)
theorem pd_pj_no {T : Nat} {E : Nat → Nat → Prop} {P : Nat → Prop} {t : Nat} {f0 f : Nat → Bool} {j : Nat} (hb : ∀ x, E t x → P x → f0 x = true) (hE : ∀ a b, E a b → b < T) (h : pd_pj T E P t f0 j 0 f) (hj : j < T) (c : ¬ f j = true) : pd_pj T E P t f0 (j + 1) 0 f := by
  refine ⟨h.1, h.2.1, fun w hw hwj d x hx px => ?_, fun x hx => by omega⟩
  by_cases z : w = j
  · rcases d with y | y
    · rw [y] at hx
      exact h.1 x (hE _ _ hx) (hb x hx px)
    · rw [z] at y
      exact absurd (h.1 j hj y) c
  · exact h.2.2.1 w hw (by omega) d x hx px
/-- what holds between the passes -/
def pd_po (T : Nat) (E : Nat → Nat → Prop) (P : Nat → Prop) (t k : Nat) (f : Nat → Bool) : Prop :=
  (∀ u, u < T → f u = true → pd_RC E P t u) ∧ (pd_cl E P t (pd_In T f) ∨ k ≤ pd_cnt f T)
theorem pd_po_s {T : Nat} {E : Nat → Nat → Prop} {P : Nat → Prop} {t k : Nat} {f0 f : Nat → Bool} (hE : ∀ a b, E a b → b < T) (ht : t < T) (h : pd_po T E P t k f0) (hj : pd_pj T E P t f0 T 0 f) : pd_po T E P t (k + 1) f := by
  refine ⟨hj.2.1 _ (pd_RC_cl E P t) h.1, ?_⟩
  exact pd_pass hE hj.1 hj.2.1 (fun x hx px => hj.2.2.1 t ht ht (Or.inl rfl) x hx px) (fun w x hw y hx px => hj.2.2.1 w hw hw (Or.inr y) x hx px) h.2
theorem pd_po_e {T : Nat} {E : Nat → Nat → Prop} {P : Nat → Prop} {t : Nat} {f : Nat → Bool} (hE : ∀ a b, E a b → b < T) (h : pd_po T E P t T f) (u : Nat) (hu : u < T) : f u = true ↔ pd_RC E P t u :=
  pd_RC_is (pd_passed hE h.2) h.1 u hu
theorem pd_po_0 {T : Nat} {E : Nat → Nat → Prop} {P : Nat → Prop} {t : Nat} {f : Nat → Bool} (h : ∀ u, u < T → f u = false) : pd_po T E P t 0 f :=
  ⟨fun u hu y => absurd ((h u hu).symm.trans y) (by decide), Or.inr (Nat.zero_le _)⟩
/-- the first set of the component: t's targets -/
theorem pd_po_1 {T : Nat} {E : Nat → Nat → Prop} {P : Nat → Prop} {t : Nat} {f : Nat → Bool} (hE : ∀ a b, E a b → b < T) (h : ∀ u, u < T → (f u = true ↔ (E t u ∧ P u))) : pd_po T E P t 1 f := by
  refine ⟨fun u hu y => (pd_RC_cl E P t).1 u ((h u hu).mp y).1 ((h u hu).mp y).2, ?_⟩
  by_cases z : ∃ u, u < T ∧ f u = true
  · obtain ⟨u, hu, y⟩ := z
    exact Or.inr (pd_cnt_pos f T u hu y)
  · refine Or.inl ⟨fun x hx px => ⟨hE _ _ hx, (h x (hE _ _ hx)).mpr ⟨hx, px⟩⟩, fun w x hw => absurd ⟨w, hw.1, hw.2⟩ z⟩
/-! who is on a reported cycle; how many are not live -/
def pd_C (T L : Nat) (q : Nat → Nat → Nat) (m : Nat → Nat → Int32) (t : Nat) : Prop := pd_RC (pd_E T L q m) (fun _ => True) t t
def pd_dead (T : Nat) (s : Nat → Int32) : Nat := pd_cnt (fun t => decide (s t ≠ 1)) T
theorem pd_dead_s {T : Nat} {s : Nat → Int32} {v : Nat} (hv : v < T) (e : s v = 1) : pd_dead T (upd s v 3) = pd_dead T s + 1 := by
  refine pd_cnt_one (fun t => decide (s t ≠ 1)) (fun t => decide (upd s v 3 t ≠ 1)) T v hv ?_ ?_ (fun t _ n => ?_)
  · show decide (s v ≠ 1) = false
    rw [e]; decide
  · show decide (upd s v 3 v ≠ 1) = true
    rw [pk_us]; decide
  · show decide (s t ≠ 1) = decide (upd s v 3 t ≠ 1)
    rw [pk_un n]
theorem pd_dead_all {T : Nat} {s : Nat → Int32} (h : T ≤ pd_dead T s) {t : Nat} (ht : t < T) : s t ≠ 1 :=
  of_decide_eq_true (pd_cnt_full (fun t => decide (s t ≠ 1)) T h t ht)
theorem pd_low_dead {T L : Nat} {q : Nat → Nat → Nat} {m : Nat → Nat → Int32} {s pr : Nat → Int32} (h : pd_G T L q m s) (hT : T ≤ 8) (hd : T ≤ pd_dead T s) : pd_low (pd_C T L q m) pr T = -1 := by
  rcases pd_low_is (pd_C T L q m) pr T hT with z | ⟨a, ha, _, c⟩
  · exact z.1
  · exact absurd (pd_RC_live h c).1 (pd_dead_all hd ha)
