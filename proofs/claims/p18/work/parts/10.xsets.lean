/-! the component's walks: sets of transactions as bits -/
theorem pd_bj {r : Int32} {j : Nat} {Q : Nat → Prop} (hj : j < 32) (h : ∀ u, u < 32 → (bt r u = true ↔ u < j ∧ Q u)) (c : Q j) : ∀ u, u < 32 → (bt (r ||| ((1 : Int32) <<< (nI j &&& 31))) u = true ↔ u < j + 1 ∧ Q u) := fun u hu => by
  rw [b_or, pd_bit hj, Bool.or_eq_true, h u hu, decide_eq_true_eq]
  constructor
  · intro y
    rcases y with y | y
    · exact ⟨by omega, y.2⟩
    · exact ⟨by omega, by rw [y]; exact c⟩
  · intro y
    by_cases z : u = j
    · exact Or.inr z
    · exact Or.inl ⟨by omega, y.2⟩
theorem pd_bn {r : Int32} {j : Nat} {Q : Nat → Prop} (h : ∀ u, u < 32 → (bt r u = true ↔ u < j ∧ Q u)) (c : ¬ Q j) : ∀ u, u < 32 → (bt r u = true ↔ u < j + 1 ∧ Q u) := fun u hu => by
  rw [h u hu]
  constructor
  · intro y; exact ⟨by omega, y.2⟩
  · intro y
    have : u ≠ j := fun z => c (by rw [← z]; exact y.2)
    exact ⟨by omega, y.2⟩
theorem pd_b00 {Q : Nat → Prop} : ∀ u, u < 32 → (bt 0 u = true ↔ u < 0 ∧ Q u) := fun u _ => by
  rw [b_0]
  exact ⟨fun z => (nomatch z), fun z => absurd z.1 (by omega)⟩
theorem xw_tb_0 {T L S : Nat} {n : Int32} {st pr hd vl : Nat → Int32} {p : Nat → Nat → Nat} {m : Nat → Nat → Int32} {post : Int32 → Prop} {J : Int32 → Int32 → Prop} {x1 x3 r : Int32} {l j : Nat} (hl : l < 12) (h1 : hd l = nI j → J (r ||| ((1 : Int32) <<< (nI j &&& 31))) (nI (j + 1))) (h0 : ¬ hd l = nI j → J r (nI (j + 1))) :
    wX_targetsByLock_57 post J x1 (nI l) x3 r (nI j) 0 (nI T) (nI L) (nI S) n st pr hd (pd_xp p) (pd_x m) vl := by
  refine br_t rfl ?_
  rw [nI_clamp (n := l) (by omega)]
  refine ⟨vp_in_nI hl (by decide), ?_⟩
  by_cases z : hd l = nI j
  · exact br_t z (nm_e (nm_r (nI_1 _) (h1 z)))
  · exact br_f z (nm_r (nI_1 _) (h0 z))
theorem xw_tb_1 {T L S : Nat} {n : Int32} {st pr hd vl : Nat → Int32} {p : Nat → Nat → Nat} {m : Nat → Nat → Int32} {post : Int32 → Prop} {J : Int32 → Int32 → Prop} {x1 x2 x3 r : Int32} {j : Nat} (h1 : J (r ||| ((1 : Int32) <<< (nI j &&& 31))) (nI (j + 1))) :
    wX_targetsByLock_57 post J x1 x2 x3 r (nI j) 1 (nI T) (nI L) (nI S) n st pr hd (pd_xp p) (pd_x m) vl :=
  br_f (by decide) (nm_e (nm_r (nI_1 _) h1))
theorem xw_tb_l {T L S : Nat} {n : Int32} {st pr hd vl : Nat → Int32} {p : Nat → Nat → Nat} {m : Nat → Nat → Int32} {post : Int32 → Prop} {l t : Nat} (hT : T ≤ 8) (hb : ∀ a b, p a b < 16) (hl : l < 12) (ht : t < 8)
    (hp : ∀ r : Int32, (∀ u, u < 32 → (bt r u = true ↔ u < T ∧ ((p l u ≠ 0 ∧ p l u < p l t) ∨ hd l = nI u))) → post r) :
    ∀ d j (r : Int32), j + d = T → (∀ u, u < 32 → (bt r u = true ↔ u < j ∧ ((p l u ≠ 0 ∧ p l u < p l t) ∨ hd l = nI u))) → wX_targetsByLock_11 post (nI t) (nI l) (nI (l * 8)) (nI T) (nI L) (nI S) n st pr hd (pd_xp p) (pd_x m) vl (d + 1) r (nI j) := by
  intro d
  induction d with
  | zero =>
    intro j r hj h
    have e : j = T := by omega
    subst e
    exact br_t (nI_le (Nat.le_refl _) (by omega)) (hp r h)
  | succ d ih =>
    intro j r hj h
    have hbj := hb l j
    have hbt := hb l t
    have hi : vp_in (nI (l * 8 + j)) 96 := vp_in_nI (by omega) (by decide)
    have hit : vp_in (nI (l * 8 + t)) 96 := vp_in_nI (by omega) (by decide)
    refine br_f (nI_ge (by omega) (by omega)) ?_
    rw [nI_add, nI_add (l * 8) t, nI_clamp (n := l * 8 + j) (by omega), nI_clamp (n := l * 8 + t) (by omega), pd_xp_at p (t := j) (by omega), pd_xp_at p ht]
    refine ⟨hi, ?_⟩
    have k0 : ¬ (p l j ≠ 0 ∧ p l j < p l t) → wX_targetsByLock_57 post (wX_targetsByLock_11 post (nI t) (nI l) (nI (l * 8)) (nI T) (nI L) (nI S) n st pr hd (pd_xp p) (pd_x m) vl (d + 1)) (nI t) (nI l) (nI (l * 8)) r (nI j) 0 (nI T) (nI L) (nI S) n st pr hd (pd_xp p) (pd_x m) vl := fun c =>
      xw_tb_0 hl (fun z => ih (j + 1) _ (by omega) (pd_bj (by omega) h (Or.inr z))) (fun z => ih (j + 1) _ (by omega) (pd_bn h (fun y => y.elim c z)))
    by_cases z : p l j = 0
    · exact br_t (by rw [z]; rfl) (k0 (fun y => y.1 z))
    · refine br_f (nI_ne0 (by omega) (by omega)) ⟨hi, hit, ?_⟩
      by_cases y : p l t ≤ p l j
      · exact br_t (nI_le y (by omega)) (k0 (fun w => by omega))
      · exact br_f (nI_ge (by omega) (by omega)) (xw_tb_1 (ih (j + 1) _ (by omega) (pd_bj (by omega) h (Or.inl ⟨z, by omega⟩))))
theorem xw_tb {T L S : Nat} {n : Int32} {st pr hd vl : Nat → Int32} {p : Nat → Nat → Nat} {m : Nat → Nat → Int32} {post : Int32 → Prop} {l t : Nat} (hT : T ≤ 8) (hb : ∀ a b, p a b < 16) (hl : l < 12) (ht : t < 8)
    (hp : ∀ r : Int32, (∀ u, u < 32 → (bt r u = true ↔ u < T ∧ ((p l u ≠ 0 ∧ p l u < p l t) ∨ hd l = nI u))) → post r) : wpX_targetsByLock post (nI T, nI L, nI S, n, st, pr, hd, pd_xp p, pd_x m, vl) (nI t) (nI l) :=
  nm_r (pd_ix8' l) ⟨T + 1, xw_tb_l hT hb hl ht hp T 0 0 (by omega) pd_b00⟩
theorem pd_bo {r x : Int32} {j : Nat} {c : Nat → Prop} {A : Nat → Nat → Prop} (h : ∀ u, u < 32 → (bt r u = true ↔ ∃ l, l < j ∧ c l ∧ A l u)) (hc : c j) (hx : ∀ u, u < 32 → (bt x u = true ↔ A j u)) :
    ∀ u, u < 32 → (bt (r ||| x) u = true ↔ ∃ l, l < j + 1 ∧ c l ∧ A l u) := fun u hu => by
  rw [b_or, Bool.or_eq_true, h u hu, hx u hu]
  constructor
  · intro y
    rcases y with ⟨l, h1, h2, h3⟩ | y
    · exact ⟨l, by omega, h2, h3⟩
    · exact ⟨j, by omega, hc, y⟩
  · intro ⟨l, h1, h2, h3⟩
    by_cases z : l = j
    · rw [z] at h3; exact Or.inr h3
    · exact Or.inl ⟨l, by omega, h2, h3⟩
theorem pd_bs {r : Int32} {j : Nat} {c : Nat → Prop} {A : Nat → Nat → Prop} (h : ∀ u, u < 32 → (bt r u = true ↔ ∃ l, l < j ∧ c l ∧ A l u)) (hc : ¬ c j) :
    ∀ u, u < 32 → (bt r u = true ↔ ∃ l, l < j + 1 ∧ c l ∧ A l u) := fun u hu => by
  rw [h u hu]
  constructor
  · intro ⟨l, h1, h2, h3⟩
    exact ⟨l, by omega, h2, h3⟩
  · intro ⟨l, h1, h2, h3⟩
    have : l ≠ j := fun z => hc (by rw [← z]; exact h2)
    exact ⟨l, by omega, h2, h3⟩
theorem pd_bs0 {c : Nat → Prop} {A : Nat → Nat → Prop} : ∀ u, u < 32 → (bt 0 u = true ↔ ∃ l, l < 0 ∧ c l ∧ A l u) := fun u _ => by
  rw [b_0]
  exact ⟨fun z => (nomatch z), fun ⟨l, h, _⟩ => absurd h (by omega)⟩
/-- those for whom t waits at l -/
def pd_A (T : Nat) (p : Nat → Nat → Nat) (hd : Nat → Int32) (t l u : Nat) : Prop := u < T ∧ ((p l u ≠ 0 ∧ p l u < p l t) ∨ hd l = nI u)
theorem xw_rep_l {T L S : Nat} {n : Int32} {st pr hd vl : Nat → Int32} {p : Nat → Nat → Nat} {m : Nat → Nat → Int32} {post : Int32 → Prop} {t : Nat} (hT : T ≤ 8) (hL : L ≤ 12) (hb : ∀ a b, p a b < 16) (ht : t < 8)
    (hp : ∀ r : Int32, (∀ u, u < 32 → (bt r u = true ↔ ∃ l, l < L ∧ m l t ≠ 0 ∧ pd_A T p hd t l u)) → post r) :
    ∀ d j (r : Int32), j + d = L → (∀ u, u < 32 → (bt r u = true ↔ ∃ l, l < j ∧ m l t ≠ 0 ∧ pd_A T p hd t l u)) → wX_reportedTargets_4 post (nI t) (nI T) (nI L) (nI S) n st pr hd (pd_xp p) (pd_x m) vl (d + 1) r (nI j) := by
  intro d
  induction d with
  | zero =>
    intro j r hj h
    have e : j = L := by omega
    subst e
    exact br_t (nI_le (Nat.le_refl _) (by omega)) (hp r h)
  | succ d ih =>
    intro j r hj h
    refine br_f (nI_ge (by omega) (by omega)) ?_
    rw [pd_ix8, nI_clamp (n := j * 8 + t) (by omega), pd_x_at m ht]
    refine ⟨vp_in_nI (by omega) (by decide), ?_⟩
    by_cases z : m j t = 0
    · exact br_t z (nm_r (nI_1 _) (ih (j + 1) r (by omega) (pd_bs h (fun y => y z))))
    · exact br_f z (xw_tb hT hb (by omega) ht (fun x hx => nm_e (nm_r (nI_1 _) (ih (j + 1) _ (by omega) (pd_bo h z hx)))))
theorem xw_all_l {T L S : Nat} {n : Int32} {st pr hd vl : Nat → Int32} {p : Nat → Nat → Nat} {m : Nat → Nat → Int32} {post : Int32 → Prop} {t : Nat} (hT : T ≤ 8) (hL : L ≤ 12) (hb : ∀ a b, p a b < 16) (ht : t < 8)
    (hp : ∀ r : Int32, (∀ u, u < 32 → (bt r u = true ↔ ∃ l, l < L ∧ p l t ≠ 0 ∧ pd_A T p hd t l u)) → post r) :
    ∀ d j (r : Int32), j + d = L → (∀ u, u < 32 → (bt r u = true ↔ ∃ l, l < j ∧ p l t ≠ 0 ∧ pd_A T p hd t l u)) → wX_allTargets_4 post (nI t) (nI T) (nI L) (nI S) n st pr hd (pd_xp p) (pd_x m) vl (d + 1) r (nI j) := by
  intro d
  induction d with
  | zero =>
    intro j r hj h
    have e : j = L := by omega
    subst e
    exact br_t (nI_le (Nat.le_refl _) (by omega)) (hp r h)
  | succ d ih =>
    intro j r hj h
    exact br_f (nI_ge (by omega) (by omega)) (xw_isQ hb (by omega) ht
      (fun z => br_f (by decide) (xw_tb hT hb (by omega) ht (fun x hx => nm_e (nm_r (nI_1 _) (ih (j + 1) _ (by omega) (pd_bo h z hx))))))
      (fun z => br_t rfl (nm_r (nI_1 _) (ih (j + 1) r (by omega) (pd_bs h (fun y => y z))))))
theorem pd_tg {T L : Nat} {q : Nat → Nat → Nat} {hd : Nat → Int32} {l t u : Nat} (hT : T ≤ 8) (hH : pd_H T q hd l) (e : 2 ≤ q l t) : pd_A T (pd_p q) hd t l u ↔ (u < T ∧ q l u ≠ 0 ∧ q l u < q l t) := by
  show (u < T ∧ ((q l u - 1 ≠ 0 ∧ q l u - 1 < q l t - 1) ∨ hd l = nI u)) ↔ _
  constructor
  · intro ⟨hu, y⟩
    rcases y with y | y
    · exact ⟨hu, by omega, by omega⟩
    · have := (pd_H_iff hT hH hu).mp y
      exact ⟨hu, by omega, by omega⟩
  · intro ⟨hu, y⟩
    refine ⟨hu, ?_⟩
    by_cases z : q l u = 1
    · exact Or.inr ((pd_H_iff hT hH hu).mpr z)
    · exact Or.inl ⟨by omega, by omega⟩
theorem xw_rep {T L S : Nat} {n : Int32} {st pr hd vl : Nat → Int32} {q : Nat → Nat → Nat} {m : Nat → Nat → Int32} {post : Int32 → Prop} {x t : Nat} {s : Nat → Int32} (hT : T ≤ 8) (hL : L ≤ 12) (R : pd_R x T L q m s st hd) (ht : t < T)
    (hp : ∀ r : Int32, (∀ u, u < 32 → (bt r u = true ↔ pd_E T L q m t u)) → post r) : wpX_reportedTargets post (nI T, nI L, nI S, n, st, pr, hd, pd_xp (pd_p q), pd_x m, vl) (nI t) := by
  refine ⟨L + 1, xw_rep_l hT hL (pd_p_lt R.1.2.2.2) (by omega) (fun r h => hp r (fun u hu => ?_)) L 0 0 (by omega) pd_bs0⟩
  rw [h u hu]
  constructor
  · intro ⟨l, h1, h2, h3⟩
    have h4 := (pd_tg (L := L) hT (R.2.1 l h1) (R.1.2.1 l t h1 ht h2)).mp h3
    exact ⟨ht, h4.1, l, h1, h2, h4.2.1, h4.2.2⟩
  · intro ⟨_, hu, l, h1, h2, h3, h4⟩
    exact ⟨l, h1, h2, (pd_tg (L := L) hT (R.2.1 l h1) (R.1.2.1 l t h1 ht h2)).mpr ⟨hu, h3, h4⟩⟩
theorem xw_all {T L S : Nat} {n : Int32} {st pr hd vl : Nat → Int32} {q : Nat → Nat → Nat} {m : Nat → Nat → Int32} {post : Int32 → Prop} {x t : Nat} {s : Nat → Int32} (hT : T ≤ 8) (hL : L ≤ 12) (R : pd_R x T L q m s st hd) (ht : t < T)
    (hp : ∀ r : Int32, (∀ u, u < 32 → (bt r u = true ↔ pd_E1 T L q t u)) → post r) : wpX_allTargets post (nI T, nI L, nI S, n, st, pr, hd, pd_xp (pd_p q), pd_x m, vl) (nI t) := by
  refine ⟨L + 1, xw_all_l hT hL (pd_p_lt R.1.2.2.2) (by omega) (fun r h => hp r (fun u hu => ?_)) L 0 0 (by omega) pd_bs0⟩
  rw [h u hu]
  constructor
  · intro ⟨l, h1, h2, h3⟩
    have h2' : q l t - 1 ≠ 0 := h2
    have h4 := (pd_tg (L := L) hT (R.2.1 l h1) (by omega)).mp h3
    exact ⟨ht, h4.1, l, h1, h4.2.1, h4.2.2⟩
  · intro ⟨_, hu, l, h1, h3, h4⟩
    exact ⟨l, h1, by show q l t - 1 ≠ 0; omega, (pd_tg (L := L) hT (R.2.1 l h1) (by omega)).mpr ⟨hu, h3, h4⟩⟩
