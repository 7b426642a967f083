/-! what holds of places q, marks m, states s (the reference's), st and holders hd (the component's) -/
def pd_W (L : Nat) (q : Nat → Nat → Nat) (t : Nat) : Prop := ∃ l, l < L ∧ 2 ≤ q l t
def pd_G (T L : Nat) (q : Nat → Nat → Nat) (m : Nat → Nat → Int32) (s : Nat → Int32) : Prop :=
  (∀ l, l < L → pd_Q T (q l)) ∧ (∀ l t, l < L → t < T → m l t ≠ 0 → 2 ≤ q l t) ∧ (∀ l t, l < L → t < T → q l t ≠ 0 → s t = 1) ∧ (∀ l t, q l t < 16)
def pd_H (T : Nat) (q : Nat → Nat → Nat) (hd : Nat → Int32) (l : Nat) : Prop :=
  (∀ t, t < T → q l t = 1 → hd l = nI t) ∧ ((∀ t, t < T → q l t ≠ 1) → hd l = -1)
def pd_S (L : Nat) (q : Nat → Nat → Nat) (s st : Nat → Int32) (t : Nat) : Prop :=
  (s t = 0 ∨ s t = 1 ∨ s t = 3) ∧ (s t = 1 → pd_W L q t → st t = 2) ∧ (s t = 1 → ¬ pd_W L q t → st t = 1) ∧ (s t ≠ 1 → st t = s t)
def pd_R (e T L : Nat) (q : Nat → Nat → Nat) (m : Nat → Nat → Int32) (s st hd : Nat → Int32) : Prop :=
  pd_G T L q m s ∧ (∀ l, l < L → pd_H T q hd l) ∧ (∀ t, t < T → t ≠ e → pd_S L q s st t)
theorem pd_m1 : ∀ t, t < 8 → nI t ≠ -1 := by decide +kernel
theorem pd_H_iff {T : Nat} {q : Nat → Nat → Nat} {hd : Nat → Int32} {l : Nat} (hT : T ≤ 8) (h : pd_H T q hd l) {t : Nat} (ht : t < T) : hd l = nI t ↔ q l t = 1 := by
  constructor
  · intro e
    by_cases z : ∃ u, u < T ∧ q l u = 1
    · obtain ⟨u, hu, e1⟩ := z
      have e2 := h.1 u hu e1
      rw [e] at e2
      rw [nI_eq (by omega) (by omega)] at e2
      rw [e2]
      exact e1
    · have e2 := h.2 (fun u hu e1 => z ⟨u, hu, e1⟩)
      rw [e] at e2
      exact absurd e2 (pd_m1 t (by omega))
  · exact h.1 t ht
theorem pd_H_none {T : Nat} {q : Nat → Nat → Nat} {hd : Nat → Int32} {l : Nat} (hT : T ≤ 8) (h : pd_H T q hd l) : hd l = -1 ↔ ∀ t, t < T → q l t ≠ 1 := by
  constructor
  · intro e t ht e1
    have e2 := h.1 t ht e1
    rw [e] at e2
    exact pd_m1 t (by omega) e2.symm
  · exact h.2
theorem pd_S_live {L : Nat} {q : Nat → Nat → Nat} {s st : Nat → Int32} {t : Nat} (h : pd_S L q s st t) : (st t = 1 ∨ st t = 2) ↔ s t = 1 := by
  obtain ⟨h0, h1, h2, h3⟩ := h
  constructor
  · intro e
    rcases h0 with z | z | z
    · rw [h3 (by rw [z]; decide), z] at e
      exact absurd e (by decide)
    · exact z
    · rw [h3 (by rw [z]; decide), z] at e
      exact absurd e (by decide)
  · intro e
    by_cases w : pd_W L q t
    · exact Or.inr (h1 e w)
    · exact Or.inl (h2 e w)
theorem pd_S_run {L : Nat} {q : Nat → Nat → Nat} {s st : Nat → Int32} {t : Nat} (h : pd_S L q s st t) : st t = 1 ↔ (s t = 1 ∧ ¬ pd_W L q t) := by
  constructor
  · intro e
    have e1 := (pd_S_live h).mp (Or.inl e)
    refine ⟨e1, fun w => ?_⟩
    rw [h.2.1 e1 w] at e
    exact absurd e (by decide)
  · intro e
    exact h.2.2.1 e.1 e.2
theorem pd_R_any {T L : Nat} {q : Nat → Nat → Nat} {m : Nat → Nat → Int32} {s st hd : Nat → Int32} (e : Nat) (hT : T ≤ 8) (h : pd_R 8 T L q m s st hd) : pd_R e T L q m s st hd :=
  ⟨h.1, h.2.1, fun t ht _ => h.2.2 t ht (by omega)⟩
theorem pd_R_all {e T L : Nat} {q : Nat → Nat → Nat} {m : Nat → Nat → Int32} {s st hd : Nat → Int32} (h : pd_R e T L q m s st hd) (hS : e < T → pd_S L q s st e) : pd_R 8 T L q m s st hd :=
  ⟨h.1, h.2.1, fun t ht _ => by
    by_cases z : t = e
    · rw [z]; exact hS (by omega)
    · exact h.2.2 t ht z⟩
/-- the component's places -/
def pd_p (q : Nat → Nat → Nat) : Nat → Nat → Nat := fun l t => q l t - 1
theorem pd_G_rem {T L : Nat} {q : Nat → Nat → Nat} {m : Nat → Nat → Int32} {s : Nat → Int32} (h : pd_G T L q m s) {l t : Nat} (hl : l < L) (ht : t < T) (e : q l t ≠ 0) :
    pd_G T L (pd_rem T q l t) (pd_mrem T q m l t) s := by
  obtain ⟨h1, h2, h3, h4⟩ := h
  refine ⟨fun a ha => ?_, fun a b ha hb hm => ?_, fun a b ha hb hn => ?_, fun a b => ?_⟩
  · by_cases z : a = l
    · rw [z]
      exact pd_Q_rem (h1 l hl) ht e _ (fun b => by rw [pd_rem_row])
    · rw [pd_rem_rows _ _ _ _ z]
      exact h1 a ha
  · by_cases z : a = l
    · rw [z] at hm
      rw [z]
      by_cases c : b = t ∨ (b < T ∧ q l t < q l b ∧ q l b = 2)
      · exact absurd (if_pos ⟨rfl, c⟩ : pd_mrem T q m l t l b = 0) hm
      · have e1 : pd_mrem T q m l t l b = m l b := if_neg (fun z => c z.2)
        rw [e1] at hm
        have e2 := h2 l b hl hb hm
        by_cases g : q l t < q l b
        · rw [pd_rem_gt _ _ _ _ hb g]; omega
        · rw [pd_rem_le _ _ _ _ (by omega) (by omega)]; exact e2
    · rw [pd_rem_ne _ _ _ _ _ z]
      have e1 : pd_mrem T q m l t a b = m a b := if_neg (fun y => z y.1)
      rw [e1] at hm
      exact h2 a b ha hb hm
  · apply h3 a b ha hb
    intro e0
    apply hn
    by_cases z : a = l
    · rw [z] at e0
      rw [z]
      by_cases y : b = t
      · rw [y, pd_rem_t]
      · rw [pd_rem_le _ _ _ _ y (by omega), e0]
    · rw [pd_rem_ne _ _ _ _ _ z, e0]
  · by_cases z : a = l
    · rw [z]
      by_cases y : b = t
      · rw [y, pd_rem_t]; omega
      · have := h4 l b
        by_cases g : b < T ∧ q l t < q l b
        · rw [pd_rem_gt _ _ _ _ g.1 g.2]; omega
        · rw [pd_rem_le _ _ _ _ y g]; exact this
    · rw [pd_rem_ne _ _ _ _ _ z]; exact h4 a b
/-! t leaves the queue of l -/
theorem pd_q_m {T : Nat} {q : Nat → Nat → Nat} {m : Nat → Nat → Int32} {l t : Nat} (e : 2 ≤ q l t) : pd_mrem T q m l t = pd_set m l t 0 := by
  funext a b
  exact pd_if1 (by omega : (a = l ∧ (b = t ∨ (b < T ∧ q l t < q l b ∧ q l b = 2))) ↔ (a = l ∧ b = t))
theorem pd_q_p {T : Nat} {q : Nat → Nat → Nat} {l t : Nat} (e : 2 ≤ q l t) : pd_rem T (pd_p q) l t = pd_p (pd_rem T q l t) := by
  funext a b
  by_cases z : a = l
  · rw [z]
    by_cases y : b = t
    · rw [y, pd_rem_t]
      show 0 = pd_rem T q l t l t - 1
      rw [pd_rem_t] <;> rfl
    · by_cases g : b < T ∧ q l t < q l b
      · have g' : pd_p q l t < pd_p q l b := by show q l t - 1 < q l b - 1; omega
        rw [pd_rem_gt _ _ _ _ g.1 g']
        show q l b - 1 - 1 = pd_rem T q l t l b - 1
        rw [pd_rem_gt _ _ _ _ g.1 g.2]
      · have g' : ¬ (b < T ∧ pd_p q l t < pd_p q l b) := by show ¬ (b < T ∧ q l t - 1 < q l b - 1); omega
        rw [pd_rem_le _ _ _ _ y g']
        show q l b - 1 = pd_rem T q l t l b - 1
        rw [pd_rem_le _ _ _ _ y g]
  · rw [pd_rem_ne _ _ _ _ _ z]
    show q a b - 1 = pd_rem T q l t a b - 1
    rw [pd_rem_ne _ _ _ _ _ z]
theorem pd_q_W {T L : Nat} {q : Nat → Nat → Nat} {l t u : Nat} (hu : u < T) (e : 2 ≤ q l t) (n : u ≠ t) : pd_W L (pd_rem T q l t) u ↔ pd_W L q u := by
  have key : ∀ a, 2 ≤ pd_rem T q l t a u ↔ 2 ≤ q a u := fun a => by
    by_cases z : a = l
    · rw [z]
      by_cases g : q l t < q l u
      · rw [pd_rem_gt _ _ _ _ hu g]; omega
      · rw [pd_rem_le _ _ _ _ n (by omega)]
    · rw [pd_rem_ne _ _ _ _ _ z]
  exact ⟨fun ⟨a, h1, h2⟩ => ⟨a, h1, (key a).mp h2⟩, fun ⟨a, h1, h2⟩ => ⟨a, h1, (key a).mpr h2⟩⟩
theorem pd_S_eqv {L : Nat} {q q' : Nat → Nat → Nat} {s st : Nat → Int32} {t : Nat} (w : pd_W L q' t ↔ pd_W L q t) (h : pd_S L q s st t) : pd_S L q' s st t :=
  ⟨h.1, fun a b => h.2.1 a (w.mp b), fun a b => h.2.2.1 a (fun c => b (w.mpr c)), h.2.2.2⟩
theorem pd_R_queued {T L : Nat} {q : Nat → Nat → Nat} {m : Nat → Nat → Int32} {s st hd : Nat → Int32} {l t : Nat} (h : pd_R t T L q m s st hd) (hl : l < L) (ht : t < T) (e : 2 ≤ q l t) :
    pd_R t T L (pd_rem T q l t) (pd_set m l t 0) s st hd := by
  refine ⟨pd_q_m (T := T) (m := m) e ▸ pd_G_rem h.1 hl ht (by omega), fun a ha => ?_, fun u hu n => pd_S_eqv (pd_q_W hu e n) (h.2.2 u hu n)⟩
  have H := h.2.1 a ha
  have key : ∀ u, u < T → (pd_rem T q l t a u = 1 ↔ q a u = 1) := fun u hu => by
    by_cases z : a = l
    · rw [z]
      by_cases y : u = t
      · rw [y, pd_rem_t]; omega
      · by_cases g : q l t < q l u
        · rw [pd_rem_gt _ _ _ _ hu g]; omega
        · rw [pd_rem_le _ _ _ _ y (by omega)]
    · rw [pd_rem_ne _ _ _ _ _ z]
  exact ⟨fun u hu e1 => H.1 u hu ((key u hu).mp e1), fun H1 => H.2 (fun u hu e1 => H1 u hu ((key u hu).mpr e1))⟩
