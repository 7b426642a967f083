/-! the edges when t has left; cycles -/
theorem pe_rem {T L : Nat} {q : Nat → Nat → Nat} {m : Nat → Nat → Int32} {s : Nat → Int32} {l t : Nat} (h : pd_G T L q m s) (hl : l < L) (ht : t < T) (e : q l t ≠ 0) {a b : Nat} (na : a ≠ t) (nb : b ≠ t) :
    pd_E T L (pd_rem T q l t) (pd_mrem T q m l t) a b ↔ pd_E T L q m a b := by
  have hQ := h.1 l hl
  have key : a < T → b < T → ((pd_mrem T q m l t l a ≠ 0 ∧ pd_rem T q l t l b ≠ 0 ∧ pd_rem T q l t l b < pd_rem T q l t l a) ↔ (m l a ≠ 0 ∧ q l b ≠ 0 ∧ q l b < q l a)) := by
    intro ha hb
    have ia : q l a ≠ 0 → q l a ≠ q l t := fun z y => na (hQ.2.2 a t ha ht y z)
    have ib : q l b ≠ 0 → q l b ≠ q l t := fun z y => nb (hQ.2.2 b t hb ht y z)
    have ea : pd_rem T q l t l a = if q l t < q l a then q l a - 1 else q l a := by
      by_cases g : q l t < q l a
      · rw [pd_rem_gt _ _ _ _ ha g, if_pos g]
      · rw [pd_rem_le _ _ _ _ na (fun z => g z.2), if_neg g]
    have eb : pd_rem T q l t l b = if q l t < q l b then q l b - 1 else q l b := by
      by_cases g : q l t < q l b
      · rw [pd_rem_gt _ _ _ _ hb g, if_pos g]
      · rw [pd_rem_le _ _ _ _ nb (fun z => g z.2), if_neg g]
    rw [ea, eb]
    by_cases c : q l t < q l a ∧ q l a = 2
    · have em : pd_mrem T q m l t l a = 0 := if_pos ⟨rfl, Or.inr ⟨ha, c.1, c.2⟩⟩
      rw [em]
      constructor
      · intro z; exact absurd rfl z.1
      · intro z
        have := ib z.2.1
        omega
    · have em : pd_mrem T q m l t l a = m l a := if_neg (fun z => z.2.elim na (fun y => c y.2))
      rw [em]
      by_cases ga : q l t < q l a
      · rw [if_pos ga]
        by_cases gb : q l t < q l b
        · rw [if_pos gb]
          exact ⟨fun z => ⟨z.1, by omega, by omega⟩, fun z => ⟨z.1, by omega, by omega⟩⟩
        · rw [if_neg gb]
          exact ⟨fun z => ⟨z.1, z.2.1, by omega⟩, fun z => ⟨z.1, z.2.1, by have := ib z.2.1; omega⟩⟩
      · rw [if_neg ga]
        by_cases gb : q l t < q l b
        · rw [if_pos gb]
          exact ⟨fun z => ⟨z.1, by omega, by omega⟩, fun z => ⟨z.1, by omega, by omega⟩⟩
        · rw [if_neg gb]
  constructor
  · intro ⟨ha, hb, k, hk, z⟩
    by_cases y : k = l
    · subst y
      exact ⟨ha, hb, k, hk, (key ha hb).mp z⟩
    · rw [pd_rem_rows _ _ _ _ y, show pd_mrem T q m l t k a = m k a from if_neg (fun c => y c.1)] at z
      exact ⟨ha, hb, k, hk, z⟩
  · intro ⟨ha, hb, k, hk, z⟩
    by_cases y : k = l
    · subst y
      exact ⟨ha, hb, k, hk, (key ha hb).mpr z⟩
    · refine ⟨ha, hb, k, hk, ?_⟩
      rw [pd_rem_rows _ _ _ _ y, show pd_mrem T q m l t k a = m k a from if_neg (fun c => y c.1)]
      exact z
theorem pe_it {c : Nat → Bool} (hc : c 0 = false) {T L : Nat} {q : Nat → Nat → Nat} {m : Nat → Nat → Int32} {s : Nat → Int32} {t : Nat} (h : pd_G T L q m s) (ht : t < T) :
    ∀ j, j ≤ L → pd_G T L (pd_it c T t q m j).1 (pd_it c T t q m j).2 s ∧ ∀ a b, a ≠ t → b ≠ t → (pd_E T L (pd_it c T t q m j).1 (pd_it c T t q m j).2 a b ↔ pd_E T L q m a b) := by
  intro j
  induction j with
  | zero => intro _; exact ⟨h, fun _ _ _ _ => Iff.rfl⟩
  | succ j ih =>
    intro hj
    obtain ⟨i1, i2⟩ := ih (by omega)
    by_cases z : c ((pd_it c T t q m j).1 j t) = true
    · rw [pd_it_t z]
      have e : (pd_it c T t q m j).1 j t ≠ 0 := fun y => by rw [y, hc] at z; exact nomatch z
      exact ⟨pd_G_rem i1 (by omega) ht e, fun a b na nb => (pe_rem i1 (by omega) ht e na nb).trans (i2 a b na nb)⟩
    · rw [pd_it_f z]
      exact ⟨i1, i2⟩
theorem pe_end {T L : Nat} {q : Nat → Nat → Nat} {m : Nat → Nat → Int32} {s : Nat → Int32} {t : Nat} (h : pd_G T L q m s) (ht : t < T) (a b : Nat) :
    pd_E T L (pd_end T L t q m).1 (pd_end T L t q m).2 a b ↔ (a ≠ t ∧ b ≠ t ∧ pd_E T L q m a b) := by
  obtain ⟨g1, e1⟩ := pe_it (c := pd_c1) rfl h ht L (Nat.le_refl L)
  obtain ⟨g2, e2⟩ := pe_it (c := pd_c2) rfl g1 ht L (Nat.le_refl L)
  have g3 : pd_G T L (pd_end T L t q m).1 (pd_end T L t q m).2 s := g2
  constructor
  · intro z
    have na : a ≠ t := fun y => by
      obtain ⟨ha, hb, l, hl, z1, z2, z3⟩ := z
      rw [y, pd_end_0 l hl] at z3
      omega
    have nb : b ≠ t := fun y => by
      obtain ⟨ha, hb, l, hl, z1, z2, z3⟩ := z
      rw [y, pd_end_0 l hl] at z2
      exact z2 rfl
    exact ⟨na, nb, (e1 a b na nb).mp ((e2 a b na nb).mp z)⟩
  · intro ⟨na, nb, z⟩
    exact (e2 a b na nb).mpr ((e1 a b na nb).mpr z)
/-! a cycle through v, in the least closed set's words -/
theorem pe_mono {E F : Nat → Nat → Prop} {P Q : Nat → Prop} {v : Nat} (hE : ∀ a b, E a b → P b → (F a b ∧ Q b)) {u : Nat} (h : pd_RC E P v u) : pd_RC F Q v u :=
  fun S hS => h S ⟨fun x hx px => hS.1 x (hE _ _ hx px).1 (hE _ _ hx px).2, fun w x hw hx px => hS.2 w x hw (hE _ _ hx px).1 (hE _ _ hx px).2⟩
def pe_C (E : Nat → Nat → Prop) (v : Nat) : Prop := pd_RC E (fun _ => True) v v
def pe_D (E : Nat → Nat → Prop) (P : Nat → Prop) (v : Nat) : Prop := ∃ u, pd_RC E P v u ∧ E u v
theorem pe_pre {E : Nat → Nat → Prop} {w x v : Nat} (e : E w x) (h : pd_RC E (fun _ => True) x v) : pd_RC E (fun _ => True) w v :=
  h (pd_RC E (fun _ => True) w) ⟨fun y hy _ => (pd_RC_cl E _ w).2 x y ((pd_RC_cl E _ w).1 x e trivial) hy trivial, fun y z hy hz _ => (pd_RC_cl E _ w).2 y z hy hz trivial⟩
theorem pe_trans {E : Nat → Nat → Prop} {a b c : Nat} (h : pd_RC E (fun _ => True) a b) (k : pd_RC E (fun _ => True) b c) : pd_RC E (fun _ => True) a c :=
  k (pd_RC E (fun _ => True) a) ⟨fun y hy _ => (pd_RC_cl E _ a).2 b y h hy trivial, fun y z hy hz _ => (pd_RC_cl E _ a).2 y z hy hz trivial⟩
/-- all on the cycle are on a cycle -/
theorem pe_all {E : Nat → Nat → Prop} {v : Nat} (h : pe_C E v) : pd_RC E (pe_C E) v v := by
  have hv : ∀ x, (pd_RC E (fun _ => True) x v ∨ x = v) → pd_RC E (fun _ => True) v x → pe_C E x := fun x hx y => by
    rcases hx with z | z
    · exact pe_trans z y
    · rw [z]; exact h
  refine h (fun x => (pd_RC E (fun _ => True) x v ∨ x = v) → pd_RC E (pe_C E) v x ∧ pd_RC E (fun _ => True) v x) ⟨fun x hx _ c => ?_, fun w x hw hx _ c => ?_⟩ (Or.inr rfl) |>.1
  · have a : pd_RC E (fun _ => True) v x := (pd_RC_cl E _ v).1 x hx trivial
    exact ⟨(pd_RC_cl E _ v).1 x hx (hv x c a), a⟩
  · have d := hw (Or.inl (by
      rcases c with z | z
      · exact pe_pre hx z
      · rw [z] at hx
        exact (pd_RC_cl E _ w).1 v hx trivial))
    have a : pd_RC E (fun _ => True) v x := (pd_RC_cl E _ v).2 w x d.2 hx trivial
    exact ⟨(pd_RC_cl E _ v).2 w x d.1 hx (hv x c a), a⟩
/-- the cycle's last edge comes back to v; before it all are within P -/
theorem pe_back {E : Nat → Nat → Prop} {P Q : Nat → Prop} {v : Nat} (irr : ¬ E v v) (nv : ¬ P v) (hQ : ∀ x, Q x → x = v ∨ P x) (h : pd_RC E Q v v) : pe_D E P v := by
  have hP : ∀ x, pd_RC E P v x → P x := fun x hx => hx P ⟨fun _ _ px => px, fun _ _ _ _ px => px⟩
  have k := h (fun x => (x = v ∧ pe_D E P v) ∨ pd_RC E P v x) ⟨fun x hx qx => by
      rcases hQ x qx with z | z
      · rw [z] at hx; exact absurd hx irr
      · exact Or.inr ((pd_RC_cl E P v).1 x hx z), fun w x hw hx qx => by
      rcases hQ x qx with z | z
      · rcases hw with y | y
        · exact Or.inl ⟨z, y.2⟩
        · exact Or.inl ⟨z, w, y, by rw [z] at hx; exact hx⟩
      · rcases hw with y | y
        · rw [y.1] at hx
          exact Or.inr ((pd_RC_cl E P v).1 x hx z)
        · exact Or.inr ((pd_RC_cl E P v).2 w x y hx z)⟩
  rcases k with z | z
  · exact z.2
  · exact absurd (hP v z) nv
/-- the one step: K are picked, V of them removed; v is next, P the rest -/
theorem pe_step {E F : Nat → Nat → Prop} {K V P : Nat → Prop} {v : Nat} (irr : ∀ x, ¬ E x x)
    (hF : ∀ a b, F a b ↔ (¬ V a ∧ ¬ V b ∧ E a b)) (hV : ∀ x, V x → K x) (hK : ∀ x, K x → ¬ pe_C F x) (nv : ¬ K v) (hP : ∀ x, P x → ¬ K x) (pv : ¬ P v) (hR : ∀ x, pe_C F x → ¬ K x → x = v ∨ P x) :
    pe_D E P v ↔ pe_C F v := by
  have vV : ¬ V v := fun z => nv (hV v z)
  have pV : ∀ x, P x → ¬ V x := fun x px z => hP x px (hV x z)
  constructor
  · intro ⟨u, h1, h2⟩
    have h3 : pd_RC F P v u ∧ ¬ V u := h1 (fun x => pd_RC F P v x ∧ ¬ V x) ⟨fun x hx px => ⟨(pd_RC_cl F P v).1 x ((hF v x).mpr ⟨vV, pV x px, hx⟩) px, pV x px⟩,
      fun w x hw hx px => ⟨(pd_RC_cl F P v).2 w x hw.1 ((hF w x).mpr ⟨hw.2, pV x px, hx⟩) px, pV x px⟩⟩
    have h4 : pd_RC F (fun _ => True) v u := pe_mono (fun a b z _ => ⟨z, trivial⟩) h3.1
    exact (pd_RC_cl F _ v).2 u v h4 ((hF u v).mpr ⟨h3.2, vV, h2⟩) trivial
  · intro h
    have h1 := pe_all h
    obtain ⟨u, a, b⟩ := pe_back (P := P) (fun z => irr v ((hF v v).mp z).2.2) pv (fun x hx => hR x hx (fun z => hK x z hx)) h1
    exact ⟨u, pe_mono (fun a b z pb => ⟨((hF a b).mp z).2.2, pb⟩) a, ((hF u v).mp b).2.2⟩
/-! the order of the transactions, and the lowest -/
theorem pe_lt_trans {pr : Nat → Int32} {a b c : Nat} (h : pd_lt pr a b) (k : pd_lt pr b c) : pd_lt pr a c := by
  unfold pd_lt at *
  rw [Int32.lt_iff_toInt_lt, ← Int32.toInt_inj] at *
  omega
theorem pe_lt_tot {pr : Nat → Int32} {a b : Nat} (h : ¬ pd_lt pr a b) (n : a ≠ b) : pd_lt pr b a := by
  unfold pd_lt at *
  rw [Int32.lt_iff_toInt_lt, ← Int32.toInt_inj] at *
  omega
theorem pe_low_min (C : Nat → Prop) (pr : Nat → Int32) : ∀ n, n ≤ 8 → ∀ a, a < n → pd_low C pr n = nI a → ∀ t, t < n → C t → t = a ∨ pd_lt pr a t := by
  intro n
  induction n with
  | zero => intro _ a ha; omega
  | succ n ih =>
    intro hn a ha e t ht c
    by_cases h : C n ∧ (pd_low C pr n = -1 ∨ pd_lt pr n (pd_low C pr n).toNatClampNeg)
    · rw [pd_low_t h, nI_eq (by omega) (by omega)] at e
      subst e
      by_cases z : t = n
      · exact Or.inl z
      · rcases pd_low_is C pr n (by omega) with y | ⟨b, hb, eb, _⟩
        · exact absurd c (y.2 t (by omega))
        · have h2 := h.2
          rw [eb, nI_clamp (by omega)] at h2
          rcases h2 with y | y
          · exact absurd y (pd_m1 b (by omega))
          · rcases ih (by omega) b hb eb t (by omega) c with w | w
            · rw [w]; exact Or.inr y
            · exact Or.inr (pe_lt_trans y w)
    · rw [pd_low_f h] at e
      have an : a < n := by
        rcases pd_low_is C pr n (by omega) with y | ⟨b, hb, eb, _⟩
        · rw [y.1] at e; exact absurd e.symm (pd_m1 a (by omega))
        · rw [eb, nI_eq (by omega) (by omega)] at e; omega
      by_cases z : t = n
      · rw [z] at c
        have w : ¬ pd_lt pr n a := fun y => h ⟨c, Or.inr (by rw [e, nI_clamp (by omega)]; exact y)⟩
        rw [z]
        exact Or.inr (pe_lt_tot w (by omega))
      · exact ih (by omega) a an e t (by omega) c
/-- what the class takes for the lowest is the v next in order, if v is on a cycle -/
theorem pe_low_eq {C : Nat → Prop} {pr : Nat → Int32} {T v : Nat} (hT : T ≤ 8) (hv : v < T) (c : C v) (h : ∀ x, x < T → C x → x = v ∨ pd_lt pr v x) : pd_low C pr T = nI v := by
  rcases pd_low_is C pr T hT with y | ⟨b, hb, eb, cb⟩
  · exact absurd c (y.2 v hv)
  · rcases h b hb cb with z | z
    · rw [eb, z]
    · rcases pe_low_min C pr T hT b hb eb v hv c with w | w
      · rw [eb, w]
      · exfalso
        unfold pd_lt at z w
        rw [Int32.lt_iff_toInt_lt, ← Int32.toInt_inj] at z w
        omega
