/-! the component's walks: small methods -/
def pd_xp (p : Nat → Nat → Nat) : Nat → Int32 := fun c => nI (p (c / 8) (c % 8))
theorem pd_xp_at (p : Nat → Nat → Nat) {l t : Nat} (ht : t < 8) : pd_xp p (l * 8 + t) = nI (p l t) := by
  unfold pd_xp
  rw [show (l * 8 + t) / 8 = l by omega, show (l * 8 + t) % 8 = t by omega]
theorem pd_xp_upd (p : Nat → Nat → Nat) {l t : Nat} (ht : t < 8) (k : Nat) : upd (pd_xp p) (l * 8 + t) (nI k) = pd_xp (pd_set p l t k) := by
  funext c
  show (if c = l * 8 + t then nI k else nI (p (c / 8) (c % 8))) = nI (if c / 8 = l ∧ c % 8 = t then k else p (c / 8) (c % 8))
  by_cases h : c = l * 8 + t
  · rw [if_pos h, if_pos (by omega : c / 8 = l ∧ c % 8 = t)]
  · rw [if_neg h, if_neg (by omega : ¬ (c / 8 = l ∧ c % 8 = t))]
theorem pd_xp_upd0 (p : Nat → Nat → Nat) {l t : Nat} (ht : t < 8) : upd (pd_xp p) (l * 8 + t) 0 = pd_xp (pd_set p l t 0) := pd_xp_upd p ht 0
theorem pd_n_s1 {f : Nat → Nat} {j : Nat} (h : f j ≠ 0) : pd_n (j + 1) f = pd_n j f + 1 := by
  show pd_cnt _ j + (if decide (f j ≠ 0) = true then 1 else 0) = _
  rw [if_pos (decide_eq_true h)]
  rfl
theorem pd_n_s0 {f : Nat → Nat} {j : Nat} (h : f j = 0) : pd_n (j + 1) f = pd_n j f := by
  show pd_cnt _ j + (if decide (f j ≠ 0) = true then 1 else 0) = _
  rw [if_neg (by rw [h]; decide)]
  rfl
theorem xw_isT_t {T L S : Nat} {n : Int32} {st pr hd vl : Nat → Int32} {p : Nat → Nat → Nat} {m : Nat → Nat → Int32} {post : Int32 → Prop} {t : Nat} (hT : T ≤ 8) (ht : t < T) (hp : post 1) : wpX_isTransaction post (nI T, nI L, nI S, n, st, pr, hd, pd_xp p, pd_x m, vl) (nI t) :=
  br_f (nI_pos (by omega)) (br_f (nI_ge ht (by omega)) hp)
theorem xw_isT_f {T L S : Nat} {n : Int32} {st pr hd vl : Nat → Int32} {p : Nat → Nat → Nat} {m : Nat → Nat → Int32} {post : Int32 → Prop} {x : Int32} (hx : x < 0 ∨ nI T ≤ x) (hp : post 0) : wpX_isTransaction post (nI T, nI L, nI S, n, st, pr, hd, pd_xp p, pd_x m, vl) x := by
  by_cases h0 : x < 0
  · exact br_t h0 hp
  · exact br_f h0 (br_t (hx.resolve_left h0) hp)
theorem xw_isL_t {T L S : Nat} {n : Int32} {st pr hd vl : Nat → Int32} {p : Nat → Nat → Nat} {m : Nat → Nat → Int32} {post : Int32 → Prop} {l : Nat} (hL : L ≤ 12) (hl : l < L) (hp : post 1) : wpX_isLock post (nI T, nI L, nI S, n, st, pr, hd, pd_xp p, pd_x m, vl) (nI l) :=
  br_f (nI_pos (by omega)) (br_f (nI_ge hl (by omega)) hp)
theorem xw_isL_f {T L S : Nat} {n : Int32} {st pr hd vl : Nat → Int32} {p : Nat → Nat → Nat} {m : Nat → Nat → Int32} {post : Int32 → Prop} {x : Int32} (hx : x < 0 ∨ nI L ≤ x) (hp : post 0) : wpX_isLock post (nI T, nI L, nI S, n, st, pr, hd, pd_xp p, pd_x m, vl) x := by
  by_cases h0 : x < 0
  · exact br_t h0 hp
  · exact br_f h0 (br_t (hx.resolve_left h0) hp)
theorem xw_live {T L S : Nat} {n : Int32} {st pr hd vl : Nat → Int32} {p : Nat → Nat → Nat} {m : Nat → Nat → Int32} {post : Int32 → Prop} {t : Nat} (ht : t < 8) (h1 : (st t = 1 ∨ st t = 2) → post 1) (h0 : ¬ (st t = 1 ∨ st t = 2) → post 0) : wpX_isLive post (nI T, nI L, nI S, n, st, pr, hd, pd_xp p, pd_x m, vl) (nI t) := by
  have hi : vp_in (nI t) 8 := vp_in_nI ht (by decide)
  unfold wpX_isLive
  dsimp only
  rw [nI_clamp (n := t) (by omega)]
  refine ⟨hi, ?_⟩
  by_cases a : st t = 1
  · exact br_t a (h1 (Or.inl a))
  · refine br_f a ⟨hi, ?_⟩
    by_cases b : st t = 2
    · exact br_t b (h1 (Or.inr b))
    · exact br_f b (h0 (fun z => z.elim a b))
theorem xw_isQ {T L S : Nat} {n : Int32} {st pr hd vl : Nat → Int32} {p : Nat → Nat → Nat} {m : Nat → Nat → Int32} {post : Int32 → Prop} {l t : Nat} (hb : ∀ a b, p a b < 16) (hl : l < 12) (ht : t < 8) (h1 : p l t ≠ 0 → post 1) (h0 : p l t = 0 → post 0) : wpX_isQueued post (nI T, nI L, nI S, n, st, pr, hd, pd_xp p, pd_x m, vl) (nI t) (nI l) := by
  have := hb l t
  unfold wpX_isQueued
  dsimp only
  rw [pd_ix8, nI_clamp (n := l * 8 + t) (by omega), pd_xp_at p ht]
  refine ⟨vp_in_nI (by omega) (by decide), ?_⟩
  by_cases z : p l t = 0
  · exact br_t (by rw [z]; rfl) (h0 z)
  · exact br_f (nI_ne0 (by omega) (by omega)) (h1 z)
theorem xw_lower {T L S : Nat} {n : Int32} {st pr hd vl : Nat → Int32} {p : Nat → Nat → Nat} {m : Nat → Nat → Int32} {post : Int32 → Prop} {a b : Nat} (ha : a < 8) (hb : b < 8) (h1 : pd_lt pr a b → post 1) (h0 : ¬ pd_lt pr a b → post 0) : wpX_isLower post (nI T, nI L, nI S, n, st, pr, hd, pd_xp p, pd_x m, vl) (nI a) (nI b) := by
  have ia : vp_in (nI a) 8 := vp_in_nI ha (by decide)
  have ib : vp_in (nI b) 8 := vp_in_nI hb (by decide)
  unfold wpX_isLower
  dsimp only
  rw [nI_clamp (n := a) (by omega), nI_clamp (n := b) (by omega)]
  refine ⟨ia, ib, ?_⟩
  by_cases e : pr a = pr b
  · refine br_t e ?_
    by_cases c : b ≤ a
    · refine br_t (nI_le c (by omega)) (h0 (fun z => z.elim (fun y => ?_) (fun y => by omega)))
      rw [e] at y
      exact Int32.lt_irrefl y
    · exact br_f (nI_ge (by omega) (by omega)) (h1 (Or.inr ⟨e, by omega⟩))
  · refine br_f e ⟨ia, ib, ?_⟩
    by_cases c : pr b ≤ pr a
    · exact br_t c (h0 (fun z => z.elim (fun y => absurd c (Int32.not_le.mpr y)) (fun y => e y.1)))
    · exact br_f c (h1 (Or.inl (Int32.not_le.mp c)))
theorem xw_has {post : Int32 → Prop} {r : Int32} {t : Nat} (ht : t < 32) (h1 : bt r t = true → post 1) (h0 : bt r t = false → post 0) : wpX_contains post () r (nI t) := by
  cases e : bt r t with
  | false => exact br_t ((pd_has r t ht).mpr e) (h0 e)
  | true => exact br_f (fun z => by rw [(pd_has r t ht).mp z] at e; exact nomatch e) (h1 e)
theorem xw_enq_l {T L S : Nat} {n : Int32} {st pr hd vl : Nat → Int32} {p : Nat → Nat → Nat} {m : Nat → Nat → Int32} {post : St2 → Prop} {l t : Nat} (hT : T ≤ 8) (hb : ∀ a b, p a b < 16) (hl : l < 12) (ht : t < 8) (hp : post (nI T, nI L, nI S, n, st, pr, hd, pd_xp (pd_set p l t (pd_n T (p l) + 1)), pd_x m, vl)) :
    ∀ d j, j + d = T → wX_enqueue_5 post (nI t) (nI l) (nI T) (nI L) (nI S) n st pr hd (pd_xp p) (pd_x m) vl (d + 1) (nI (pd_n j (p l) + 1)) (nI j) := by
  intro d
  induction d with
  | zero =>
    intro j hj
    have e : j = T := by omega
    subst e
    refine br_t (nI_le (Nat.le_refl _) (by omega)) ?_
    rw [pd_ix8, nI_clamp (n := l * 8 + t) (by omega), pd_xp_upd p ht]
    exact ⟨vp_in_nI (by omega) (by decide), nm_e hp⟩
  | succ d ih =>
    intro j hj
    have i := ih (j + 1) (by omega)
    refine br_f (nI_ge (by omega) (by omega)) (xw_isQ hb hl (by omega) (fun z => br_f (by decide) (nm_r (nI_1 _) (nm_r (nI_1 _) ?_))) (fun z => br_t rfl (nm_r (nI_1 _) ?_)))
    · rw [pd_n_s1 z] at i; exact i
    · rw [pd_n_s0 z] at i; exact i
theorem xw_enqueue {T L S : Nat} {n : Int32} {st pr hd vl : Nat → Int32} {p : Nat → Nat → Nat} {m : Nat → Nat → Int32} {post : St2 → Prop} {l t : Nat} (hT : T ≤ 8) (hb : ∀ a b, p a b < 16) (hl : l < 12) (ht : t < 8) (hp : post (nI T, nI L, nI S, n, st, pr, hd, pd_xp (pd_set p l t (pd_n T (p l) + 1)), pd_x m, vl)) : wpX_enqueue post (nI T, nI L, nI S, n, st, pr, hd, pd_xp p, pd_x m, vl) (nI t) (nI l) :=
  ⟨T + 1, xw_enq_l hT hb hl ht hp T 0 (by omega)⟩
theorem xw_at_l {T L S : Nat} {n : Int32} {st pr hd vl : Nat → Int32} {p : Nat → Nat → Nat} {m : Nat → Nat → Int32} {post : Int32 → Prop} {l k : Nat} (hT : T ≤ 8) (hb : ∀ a b, p a b < 16) (hl : l < 12) (hk : k < 16) (h1 : ∀ t, t < T → p l t = k → post (nI t)) (h0 : (∀ t, t < T → p l t ≠ k) → post (-1)) :
    ∀ d j, j + d = T → (∀ t, t < j → p l t ≠ k) → wX_atPlace_2 post (nI l) (nI k) (nI T) (nI L) (nI S) n st pr hd (pd_xp p) (pd_x m) vl (d + 1) (nI j) := by
  intro d
  induction d with
  | zero =>
    intro j hj h
    exact br_t (nI_le (by omega) (by omega)) (h0 (fun t ht => h t (by omega)))
  | succ d ih =>
    intro j hj h
    have := hb l j
    refine br_f (nI_ge (by omega) (by omega)) ?_
    rw [pd_ix8, nI_clamp (n := l * 8 + j) (by omega), pd_xp_at p (by omega)]
    refine ⟨vp_in_nI (by omega) (by decide), ?_⟩
    by_cases z : p l j = k
    · exact br_t (by rw [z]) (h1 j (by omega) z)
    · refine br_f (fun y => z ((nI_eq (by omega) (by omega)).mp y)) (nm_r (nI_1 _) (ih (j + 1) (by omega) (fun t ht => ?_)))
      by_cases y : t = j
      · rw [y]; exact z
      · exact h t (by omega)
theorem xw_at {T L S : Nat} {n : Int32} {st pr hd vl : Nat → Int32} {p : Nat → Nat → Nat} {m : Nat → Nat → Int32} {post : Int32 → Prop} {l k : Nat} (hT : T ≤ 8) (hb : ∀ a b, p a b < 16) (hl : l < 12) (hk : k < 16) (h1 : ∀ t, t < T → p l t = k → post (nI t)) (h0 : (∀ t, t < T → p l t ≠ k) → post (-1)) :
    wpX_atPlace post (nI T, nI L, nI S, n, st, pr, hd, pd_xp p, pd_x m, vl) (nI l) (nI k) :=
  ⟨T + 1, xw_at_l hT hb hl hk h1 h0 T 0 (by omega) (fun t ht => by omega)⟩
theorem xw_take_l {T L S : Nat} {n : Int32} {st pr hd vl : Nat → Int32} {p : Nat → Nat → Nat} {m : Nat → Nat → Int32} {post : St2 → Prop} {l t : Nat} {m' : Nat → Nat → Int32} (hT : T ≤ 8) (hb : ∀ a b, p a b < 16) (hl : l < 12) (hp : post (nI T, nI L, nI S, n, st, pr, hd, pd_xp (pd_rem T p l t), pd_x (m'), vl)) :
    ∀ d j, j + d = T → wX_takeOut_36 post (nI (l * 8)) (nI (p l t)) (nI T) (nI L) (nI S) n (d + 1) (nI j) st pr hd (pd_xp (pd_rem j p l t)) (pd_x (m')) vl := by
  intro d
  induction d with
  | zero =>
    intro j hj
    have e : j = T := by omega
    subst e
    exact br_t (nI_le (Nat.le_refl _) (by omega)) hp
  | succ d ih =>
    intro j hj
    have i := ih (j + 1) (by omega)
    have hr := pd_rem_lt (T := j) (l := l) (t := t) hb l j
    have ht := hb l t
    refine br_f (nI_ge (by omega) (by omega)) ?_
    rw [nI_add, nI_clamp (n := l * 8 + j) (by omega), pd_xp_at _ (by omega)]
    have hi : vp_in (nI (l * 8 + j)) 96 := vp_in_nI (by omega) (by decide)
    refine ⟨hi, ?_⟩
    by_cases z : p l t < pd_rem j p l t l j
    · refine br_f (nI_ge z (by omega)) ⟨hi, hi, ?_⟩
      have e : nI (pd_rem j p l t l j) - 1 = nI (pd_rem j p l t l j - 1) := by
        obtain ⟨k, hk⟩ : ∃ k, pd_rem j p l t l j = k + 1 := ⟨pd_rem j p l t l j - 1, by omega⟩
        rw [hk, nI_pred] <;> rfl
      rw [e, pd_xp_upd _ (by omega), pd_rem_s1 p l t j z]
      exact nm_e (nm_r (nI_1 _) i)
    · rw [← pd_rem_s0 p l t j z] at i
      exact br_t (nI_le (by omega) (by omega)) (nm_r (nI_1 _) i)
theorem xw_take {T L S : Nat} {n : Int32} {st pr hd vl : Nat → Int32} {p : Nat → Nat → Nat} {m : Nat → Nat → Int32} {post : St2 → Prop} {l t : Nat} (hT : T ≤ 8) (hb : ∀ a b, p a b < 16) (hl : l < 12) (ht : t < 8) (hp : post (nI T, nI L, nI S, n, st, pr, hd, pd_xp (pd_rem T p l t), pd_x (pd_set m l t 0), vl)) : wpX_takeOut post (nI T, nI L, nI S, n, st, pr, hd, pd_xp p, pd_x m, vl) (nI t) (nI l) := by
  have hi : vp_in (nI (l * 8 + t)) 96 := vp_in_nI (by omega) (by decide)
  unfold wpX_takeOut
  dsimp only
  refine nm_r (pd_ix8' l) ?_
  rw [nI_add, nI_clamp (n := l * 8 + t) (by omega), pd_xp_at p ht]
  refine ⟨hi, nm_e ⟨hi, ?_⟩⟩
  rw [pd_xp_upd0 p ht, pd_rem_0]
  refine nm_e ⟨hi, ?_⟩
  rw [pd_x_upd m ht]
  exact nm_e ⟨T + 1, xw_take_l (m := m) hT hb hl hp T 0 (by omega)⟩
