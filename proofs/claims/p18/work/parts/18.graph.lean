/-! the law's graph of the waits that this call makes known -/
def pe_gq (T L : Nat) (q : Nat → Nat → Nat) (m' : Nat → Nat → Int32) (l i a b : Nat) : Prop :=
  ∃ k, k < L ∧ (k < l ∨ (k = l ∧ q k a < i + 2)) ∧ a < T ∧ b < T ∧ m' k a ≠ 0 ∧ q k b ≠ 0 ∧ q k b < q k a
theorem pe_gq_n {T L : Nat} {q : Nat → Nat → Nat} {m' : Nat → Nat → Int32} {l i : Nat} (h : ∀ a, a < T → q l a = i + 2 → m' l a = 0) (a b : Nat) : pe_gq T L q m' l (i + 1) a b ↔ pe_gq T L q m' l i a b := by
  constructor
  · intro ⟨k, hk, c, ha, hb, z1, z2, z3⟩
    refine ⟨k, hk, ?_, ha, hb, z1, z2, z3⟩
    rcases c with c | c
    · exact Or.inl c
    · refine Or.inr ⟨c.1, ?_⟩
      have : q k a ≠ i + 2 := fun y => z1 (by rw [c.1] at y; rw [c.1]; exact h a ha y)
      omega
  · intro ⟨k, hk, c, z⟩
    exact ⟨k, hk, by omega, z⟩
theorem pe_gq_s {T L : Nat} {q : Nat → Nat → Nat} {m' : Nat → Nat → Int32} {l i w : Nat} (hQ : pd_Q T (q l)) (hl : l < L) (hw : w < T) (ew : q l w = i + 2) (hm : m' l w ≠ 0) (a b : Nat) :
    pe_gq T L q m' l (i + 1) a b ↔ (pe_gq T L q m' l i a b ∨ (a = w ∧ b < T ∧ q l b ≠ 0 ∧ q l b < i + 2)) := by
  constructor
  · intro ⟨k, hk, c, ha, hb, z1, z2, z3⟩
    by_cases y : k = l ∧ q k a = i + 2
    · have e : a = w := hQ.2.2 a w ha hw (by rw [← y.1, y.2, y.1, ew]) (by rw [← y.1, y.2]; omega)
      rw [y.1] at z2 z3
      rw [y.1] at y
      exact Or.inr ⟨e, hb, z2, by omega⟩
    · exact Or.inl ⟨k, hk, by omega, ha, hb, z1, z2, z3⟩
  · intro z
    rcases z with ⟨k, hk, c, z⟩ | ⟨e, hb, z2, z3⟩
    · exact ⟨k, hk, by omega, z⟩
    · rw [e]
      exact ⟨l, hl, Or.inr ⟨rfl, by omega⟩, hw, hb, hm, z2, by omega⟩
theorem pe_gq_r {T L : Nat} {q : Nat → Nat → Nat} {m' : Nat → Nat → Int32} {l i : Nat} (hm : ∀ k t, k < L → t < T → m' k t ≠ 0 → 2 ≤ q k t) (hn : ∀ a, a < T → q l a < i + 2) (a b : Nat) : pe_gq T L q m' (l + 1) 0 a b ↔ pe_gq T L q m' l i a b := by
  constructor
  · intro ⟨k, hk, c, ha, hb, z1, z2, z3⟩
    refine ⟨k, hk, ?_, ha, hb, z1, z2, z3⟩
    have h2 := hm k a hk ha z1
    by_cases e : k = l
    · refine Or.inr ⟨e, ?_⟩
      rw [e]
      exact hn a ha
    · omega
  · intro ⟨k, hk, c, z⟩
    exact ⟨k, hk, by omega, z⟩
theorem ll_610 {T L S : Nat} {n : Int32} {st pr hd vl : Nat → Int32} {q : Nat → Nat → Nat} {m : Nat → Nat → Int32} {N : Nat} {xs : Nat → Int32} {kc ks : Nat} {post : Int32 → Prop} {J94 : Int64 → Int32 → Int32 → Int32 → Int32 → Int32 → Int32 → (Nat → Int32) → (Nat → Int32) → (Nat → Int32) → (Nat → Int32) → (Nat → Int32) → (Nat → Int32) → Prop} {x5 x6 x10 x11 x12 x13 x14 x15 : Int32} {J511 J529 : Int64 → Int32 → Prop} {x19 : Int32} {l i w : Nat} {Q : Nat → Nat → Prop} (hT : T ≤ 8) (hL : L ≤ 12) (hb : ∀ a b, q a b < 16) (hQ : pd_Q T (q l)) (hl : l < L) (hi : i < T) (hw : w < T) (ew : q l w = i + 2)
    (hJ : ∀ g : Int64, pe_kb g (fun a b => Q a b ∨ (a = w ∧ b < T ∧ q l b ≠ 0 ∧ q l b < i + 2)) → J529 g (nI (i + 1))) :
    ∀ d k (g : Int64), k + d = i → pe_kb g (fun a b => Q a b ∨ (a = w ∧ b < T ∧ q l b ≠ 0 ∧ q l b < k + 2)) →
      wL_law_610 post N xs J94 J511 J529 (nI T) (nI L) (nI S) x5 x6 x10 x11 x12 x13 x14 x15 (nI l) x19 (nI i) (nI w) kc ks (nI T) (nI L) (nI S) n st pr hd (pd_xp (pd_p q)) (pd_x m) vl (d + 1) g (nI k) := by
  intro d
  induction d with
  | zero =>
    intro k g hk h
    have e : k = i := by omega
    subst e
    exact br_t (nI_le (Nat.le_refl _) (by omega)) (nm_r (nI_1 _) (hJ g h))
  | succ d ih =>
    intro k g hk h
    refine br_f (nI_ge (by omega) (by omega)) (xr_waiter hT hL hb hl (by omega) (fun t ht e => nm_e (nm_r (nI_1 _) (ih (k + 1) _ (by omega) (pe_kb_s h (by omega) (by omega) (fun a b _ _ => ?_))))) (fun hn => ?_))
    · constructor
      · intro z
        rcases z with z | ⟨z1, z2, z3, z4⟩
        · exact Or.inl (Or.inl z)
        · by_cases y : q l b = k + 2
          · exact Or.inr ⟨z1, hQ.2.2 b t z2 ht (by omega) (by omega)⟩
          · exact Or.inl (Or.inr ⟨z1, z2, z3, by omega⟩)
      · intro z
        rcases z with (z | ⟨z1, z2, z3, z4⟩) | ⟨z1, z2⟩
        · exact Or.inl z
        · exact Or.inr ⟨z1, z2, z3, by omega⟩
        · rw [z2]
          exact Or.inr ⟨z1, ht, by omega, by omega⟩
    · have h1 := hQ.1 w hw
      obtain ⟨t, ht, et⟩ := hQ.2.1 (k + 2) (by omega) (by omega)
      exact absurd et (hn t ht)
theorem ll_586 {T L S : Nat} {n : Int32} {st pr hd vl : Nat → Int32} {q : Nat → Nat → Nat} {m : Nat → Nat → Int32} {N : Nat} {xs : Nat → Int32} {kc ks : Nat} {post : Int32 → Prop} {J94 : Int64 → Int32 → Int32 → Int32 → Int32 → Int32 → Int32 → (Nat → Int32) → (Nat → Int32) → (Nat → Int32) → (Nat → Int32) → (Nat → Int32) → (Nat → Int32) → Prop} {x5 x6 x10 x11 x12 x13 x14 x15 : Int32} {J511 J529 : Int64 → Int32 → Prop} {l i w : Nat} {g : Int64} {Q : Nat → Nat → Prop} (hT : T ≤ 8) (hL : L ≤ 12) (hb : ∀ a b, q a b < 16) (hQ : pd_Q T (q l)) (hH : pd_H T q hd l) (hl : l < L) (hi : i < T) (hw : w < T) (ew : q l w = i + 2)
    (hJ : ∀ g : Int64, pe_kb g (fun a b => Q a b ∨ (a = w ∧ b < T ∧ q l b ≠ 0 ∧ q l b < i + 2)) → J529 g (nI (i + 1))) (h : pe_kb g Q) :
    wL_law_586 post N xs J94 J511 J529 (nI T) (nI L) (nI S) x5 x6 x10 x11 x12 x13 x14 x15 g (nI l) (hd l) (nI i) (nI w) kc ks (nI T) (nI L) (nI S) n st pr hd (pd_xp (pd_p q)) (pd_x m) vl := by
  have h1 := hQ.1 w hw
  obtain ⟨t, ht, et⟩ := hQ.2.1 1 (by omega) (by omega)
  rw [hH.1 t ht et]
  refine br_f (pd_m1 t (by omega)) (nm_e ⟨i + 1, ll_610 (Q := Q) hT hL hb hQ hl hi hw ew hJ i 0 _ (by omega) (pe_kb_s h (by omega) (by omega) (fun a b _ _ => ?_))⟩)
  constructor
  · intro z
    rcases z with z | ⟨z1, z2, z3, z4⟩
    · exact Or.inl z
    · exact Or.inr ⟨z1, hQ.2.2 b t z2 ht (by omega) (by omega)⟩
  · intro z
    rcases z with z | ⟨z1, z2⟩
    · exact Or.inl z
    · rw [z2]
      exact Or.inr ⟨z1, ht, by omega, by omega⟩
/-- which entries this call makes known -/
def pe_cn (S : Nat) (m : Nat → Nat → Int32) (x11 x13 : Int32) (l t : Nat) : Prop := x11 = 6 ∨ nI (l % S) = x13 ∨ m l t ≠ 0
theorem ll_529 {T L S : Nat} {n : Int32} {st pr hd vl : Nat → Int32} {q : Nat → Nat → Nat} {m : Nat → Nat → Int32} {N : Nat} {xs : Nat → Int32} {kc ks : Nat} {post : Int32 → Prop} {J94 : Int64 → Int32 → Int32 → Int32 → Int32 → Int32 → Int32 → (Nat → Int32) → (Nat → Int32) → (Nat → Int32) → (Nat → Int32) → (Nat → Int32) → (Nat → Int32) → Prop} {x5 x6 x10 x11 x12 x13 x14 x15 : Int32} {J511 : Int64 → Int32 → Prop} {l x : Nat} {m' : Nat → Nat → Int32} {s : Nat → Int32} (hT : T ≤ 8) (hL : L ≤ 12) (hS1 : 1 ≤ S) (hS : S ≤ 4) (R : pd_R x T L q m s st hd) (hl : l < L)
    (hm : ∀ k t, k < L → t < T → (m' k t ≠ 0 ↔ (2 ≤ q k t ∧ pe_cn S m x11 x13 k t)))
    (hJ : ∀ g : Int64, pe_kb g (pe_gq T L q m' (l + 1) 0) → J511 g (nI (l + 1))) :
    ∀ d i (g : Int64), i + d = T → pe_kb g (pe_gq T L q m' l i) →
      wL_law_529 post N xs J94 J511 (nI T) (nI L) (nI S) x5 x6 x10 x11 x12 x13 x14 x15 (nI l) (hd l) kc ks (nI T) (nI L) (nI S) n st pr hd (pd_xp (pd_p q)) (pd_x m) vl (d + 1) g (nI i) := by
  have hb := R.1.2.2.2
  have hQ := R.1.1 l hl
  have hm2 : ∀ k t, k < L → t < T → m' k t ≠ 0 → 2 ≤ q k t := fun k t hk ht z => ((hm k t hk ht).mp z).1
  intro d
  induction d with
  | zero =>
    intro i g hi h
    refine br_t (nI_le (by omega) (by omega)) (nm_r (nI_1 _) (hJ g (pe_kb_c h (fun a b _ _ => pe_gq_r hm2 (fun a ha => ?_) a b))))
    have h1 := hQ.1 a ha
    have h2 := pd_n_le T (q l)
    omega
  | succ d ih =>
    intro i g hi h
    refine br_f (nI_ge (by omega) (by omega)) (xr_waiter hT hL hb hl (by omega) (fun w hw ew => br_f (pd_m1 w (by omega)) ?_) (fun hn => br_t rfl (nm_r (nI_1 _) (hJ g (pe_kb_c h (fun a b _ _ => pe_gq_r hm2 (fun a ha => ?_) a b))))))
    · have inj : ∀ a, a < T → q l a = i + 2 → a = w := fun a ha e => hQ.2.2 a w ha hw (by omega) (by omega)
      have yes : pe_cn S m x11 x13 l w → wL_law_586 post N xs J94 J511 (wL_law_529 post N xs J94 J511 (nI T) (nI L) (nI S) x5 x6 x10 x11 x12 x13 x14 x15 (nI l) (hd l) kc ks (nI T) (nI L) (nI S) n st pr hd (pd_xp (pd_p q)) (pd_x m) vl (d + 1)) (nI T) (nI L) (nI S) x5 x6 x10 x11 x12 x13 x14 x15 g (nI l) (hd l) (nI i) (nI w) kc ks (nI T) (nI L) (nI S) n st pr hd (pd_xp (pd_p q)) (pd_x m) vl := fun c =>
        ll_586 hT hL hb hQ (R.2.1 l hl) hl (by omega) hw ew (fun g' h' => ih (i + 1) g' (by omega) (pe_kb_c h' (fun a b _ _ => pe_gq_s hQ hl hw ew ((hm l w hl hw).mpr ⟨by omega, c⟩) a b))) h
      by_cases e6 : x11 = 6
      · exact br_t e6 (yes (Or.inl e6))
      · refine br_f e6 ⟨nI_ne0 (by omega) (by omega), ?_⟩
        rw [pk_rem (by omega) (by omega) (by omega)]
        by_cases e5 : nI (l % S) = x13
        · exact br_t e5 (yes (Or.inr (Or.inl e5)))
        · refine br_f e5 (xr_reported hT hL hw hl (fun z => br_f (by decide) (yes (Or.inr (Or.inr z)))) (fun z => br_t rfl (nm_r (nI_1 _) (ih (i + 1) g (by omega) (pe_kb_c h (fun a b _ _ => pe_gq_n (fun a ha ea => ?_) a b))))))
          rw [inj a ha ea]
          exact Classical.byContradiction (fun y => ((hm l w hl hw).mp y).2.elim e6 (fun c => c.elim e5 (fun c => c z)))
    · have h1 := hQ.1 a ha
      apply Nat.lt_of_not_le
      intro y
      obtain ⟨t, ht, et⟩ := hQ.2.1 (i + 2) (by omega) (by omega)
      exact hn t ht et
theorem ll_511 {T L S : Nat} {n : Int32} {st pr hd vl : Nat → Int32} {q : Nat → Nat → Nat} {m : Nat → Nat → Int32} {N : Nat} {xs : Nat → Int32} {kc ks : Nat} {post : Int32 → Prop} {J94 : Int64 → Int32 → Int32 → Int32 → Int32 → Int32 → Int32 → (Nat → Int32) → (Nat → Int32) → (Nat → Int32) → (Nat → Int32) → (Nat → Int32) → (Nat → Int32) → Prop} {x5 x6 x10 x11 x12 x13 x14 x15 : Int32} {x : Nat} {m' : Nat → Nat → Int32} {s : Nat → Int32} (hT : T ≤ 8) (hL : L ≤ 12) (hS1 : 1 ≤ S) (hS : S ≤ 4) (R : pd_R x T L q m s st hd)
    (hm : ∀ k t, k < L → t < T → (m' k t ≠ 0 ↔ (2 ≤ q k t ∧ pe_cn S m x11 x13 k t)))
    (K : ∀ g : Int64, pe_kb g (pd_E T L q m') → ∃ f, wL_law_673 post N xs J94 (nI T) (nI L) (nI S) x5 x6 x10 x11 x12 x13 x14 x15 g kc ks (nI T) (nI L) (nI S) n st pr hd (pd_xp (pd_p q)) (pd_x m) vl f 0 0 (((1 : Int32) <<< (nI T &&& 31)) - 1) 0) :
    ∀ d l (g : Int64), l + d = L → pe_kb g (pe_gq T L q m' l 0) →
      wL_law_511 post N xs J94 (nI T) (nI L) (nI S) x5 x6 x10 x11 x12 x13 x14 x15 kc ks (nI T) (nI L) (nI S) n st pr hd (pd_xp (pd_p q)) (pd_x m) vl (d + 1) g (nI l) := by
  intro d
  induction d with
  | zero =>
    intro l g hl h
    refine br_t (nI_le (by omega) (by omega)) (nm_e (K g (pe_kb_c h (fun a b _ _ => ?_))))
    constructor
    · intro ⟨ha, hb, k, hk, z⟩
      exact ⟨k, hk, by omega, ha, hb, z⟩
    · intro ⟨k, hk, _, ha, hb, z⟩
      exact ⟨ha, hb, k, hk, z⟩
  | succ d ih =>
    intro l g hl h
    exact br_f (nI_ge (by omega) (by omega)) (xr_holder hL (by omega) ⟨T + 1, ll_529 hT hL hS1 hS R (by omega) hm (fun g' h' => ih (l + 1) g' (by omega) h') T 0 g (by omega) h⟩)
