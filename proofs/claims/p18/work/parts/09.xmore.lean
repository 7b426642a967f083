/-! the component's walks: passing on, ending, marking -/
theorem pd_p_lt {q : Nat → Nat → Nat} (h : ∀ a b, q a b < 16) : ∀ a b, pd_p q a b < 16 := fun a b => by
  have := h a b
  show q a b - 1 < 16
  omega
theorem pd_W_p {L : Nat} {q : Nat → Nat → Nat} {t : Nat} : pd_W L q t ↔ ∃ a, a < L ∧ pd_p q a t ≠ 0 :=
  ⟨fun ⟨a, h1, h2⟩ => ⟨a, h1, by show q a t - 1 ≠ 0; omega⟩, fun ⟨a, h1, h2⟩ => ⟨a, h1, by have h3 : q a t - 1 ≠ 0 := h2; omega⟩⟩
theorem xw_run_l {T L S : Nat} {n : Int32} {st pr hd vl : Nat → Int32} {p : Nat → Nat → Nat} {m : Nat → Nat → Int32} {post : St2 → Prop} {t : Nat} (hL : L ≤ 12) (hb : ∀ a b, p a b < 16) (ht : t < 8) (h1 : (∃ a, a < L ∧ p a t ≠ 0) → post (nI T, nI L, nI S, n, st, pr, hd, pd_xp p, pd_x m, vl)) (h0 : (∀ a, a < L → p a t = 0) → post (nI T, nI L, nI S, n, upd st t 1, pr, hd, pd_xp p, pd_x m, vl)) :
    ∀ d j, j + d = L → (∀ a, a < j → p a t = 0) → wX_runIfNotWaiting_2 post (nI t) (nI T) (nI L) (nI S) n st pr hd (pd_xp p) (pd_x m) vl (d + 1) (nI j) := by
  intro d
  induction d with
  | zero =>
    intro j hj h
    refine br_t (nI_le (by omega) (by omega)) ?_
    rw [nI_clamp (n := t) (by omega)]
    exact ⟨vp_in_nI ht (by decide), nm_e (h0 (fun a ha => h a (by omega)))⟩
  | succ d ih =>
    intro j hj h
    refine br_f (nI_ge (by omega) (by omega)) (xw_isQ hb (by omega) ht (fun z => br_f (by decide) (h1 ⟨j, by omega, z⟩)) (fun z => br_t rfl (nm_r (nI_1 _) (ih (j + 1) (by omega) (fun a ha => ?_)))))
    by_cases y : a = j
    · rw [y]; exact z
    · exact h a (by omega)
theorem xw_run {T L S : Nat} {n : Int32} {st pr hd vl : Nat → Int32} {p : Nat → Nat → Nat} {m : Nat → Nat → Int32} {post : St2 → Prop} {t : Nat} (hL : L ≤ 12) (hb : ∀ a b, p a b < 16) (ht : t < 8) (h1 : (∃ a, a < L ∧ p a t ≠ 0) → post (nI T, nI L, nI S, n, st, pr, hd, pd_xp p, pd_x m, vl)) (h0 : (∀ a, a < L → p a t = 0) → post (nI T, nI L, nI S, n, upd st t 1, pr, hd, pd_xp p, pd_x m, vl)) :
    wpX_runIfNotWaiting post (nI T, nI L, nI S, n, st, pr, hd, pd_xp p, pd_x m, vl) (nI t) :=
  ⟨L + 1, xw_run_l hL hb ht h1 h0 L 0 (by omega) (fun a ha => by omega)⟩
theorem xw_pass {T L S : Nat} {n : Int32} {st pr hd vl : Nat → Int32} {p : Nat → Nat → Nat} {m : Nat → Nat → Int32} {post : St2 → Prop} {l : Nat} (hT : T ≤ 8) (hL : L ≤ 12) (hb : ∀ a b, p a b < 16) (hl : l < 12)
    (h0 : (∀ u, u < T → p l u ≠ 1) → post (nI T, nI L, nI S, n, st, pr, upd hd l (-1), pd_xp p, pd_x m, vl))
    (h1 : ∀ u, u < T → p l u = 1 → ∀ st' : Nat → Int32, ((∃ a, a < L ∧ pd_rem T p l u a u ≠ 0) → st' = st) → ((∀ a, a < L → pd_rem T p l u a u = 0) → st' = upd st u 1) → post (nI T, nI L, nI S, n, st', pr, upd hd l (nI u), pd_xp (pd_rem T p l u), pd_x (pd_set m l u 0), vl)) :
    wpX_passOn post (nI T, nI L, nI S, n, st, pr, hd, pd_xp p, pd_x m, vl) (nI l) := by
  have hi : vp_in (nI l) 12 := vp_in_nI hl (by decide)
  unfold wpX_passOn
  dsimp only
  rw [nI_clamp (n := l) (by omega)]
  refine xw_at (k := 1) hT hb hl (by omega) (fun u hu e => ?_) (fun h => ?_)
  · refine ⟨hi, nm_e (br_f (pd_m1 u (by omega)) (xw_take hT hb hl (by omega) ?_))⟩
    dsimp only
    refine xw_run (t := u) hL (pd_rem_lt hb) (by omega) (fun z => ?_) (fun z => ?_)
    · exact h1 u hu e st (fun _ => rfl) (fun y => by obtain ⟨a, ha, c⟩ := z; exact absurd (y a ha) c)
    · exact h1 u hu e (upd st u 1) (fun ⟨a, ha, c⟩ => absurd (z a ha) c) (fun _ => rfl)
  · exact ⟨hi, nm_e (br_t rfl (h0 h))⟩
/-! the end of t -/
theorem xw_end2 {T L S : Nat} {n : Int32} {pr vl : Nat → Int32} {post : St2 → Prop} {t : Nat} {v : Int32} {s : Nat → Int32} {q1 : Nat → Nat → Nat} {m1 : Nat → Nat → Int32} (hT : T ≤ 8) (hL : L ≤ 12) (ht : t < T)
    (K : ∀ st' hd' : Nat → Int32, pd_R t T L (pd_it pd_c2 T t q1 m1 L).1 (pd_it pd_c2 T t q1 m1 L).2 s st' hd' → post (nI T, nI L, nI S, n, upd st' t v, pr, hd', pd_xp (pd_p (pd_it pd_c2 T t q1 m1 L).1), pd_x ((pd_it pd_c2 T t q1 m1 L).2), vl)) :
    ∀ d j (st hd : Nat → Int32), j + d = L → pd_R t T L (pd_it pd_c2 T t q1 m1 j).1 (pd_it pd_c2 T t q1 m1 j).2 s st hd →
      wX_end_33 post (nI t) v (d + 1) (nI j) (nI T) (nI L) (nI S) n st pr hd (pd_xp (pd_p (pd_it pd_c2 T t q1 m1 j).1)) (pd_x ((pd_it pd_c2 T t q1 m1 j).2)) vl := by
  intro d
  induction d with
  | zero =>
    intro j st hd hj R
    have e : j = L := by omega
    subst e
    refine br_t (nI_le (Nat.le_refl _) (by omega)) ?_
    rw [nI_clamp (n := t) (by omega)]
    exact ⟨vp_in_nI (by omega) (by decide), nm_e (K st hd R)⟩
  | succ d ih =>
    intro j st hd hj R
    have hjL : j < L := by omega
    have hq := R.1.2.2.2
    have hH := pd_H_iff hT (R.2.1 j hjL) ht
    refine br_f (nI_ge (by omega) (by omega)) ?_
    rw [nI_clamp (n := j) (by omega)]
    refine ⟨vp_in_nI (by omega) (by decide), ?_⟩
    by_cases e : (pd_it pd_c2 T t q1 m1 j).1 j t = 1
    · have hc : pd_c2 ((pd_it pd_c2 T t q1 m1 j).1 j t) = true := pd_c2_iff.mpr e
      refine br_t (hH.mpr e) (xw_pass hT hL (pd_p_lt hq) (by omega) (fun hn => ?_) (fun u hu eu st' w1 w0 => ?_))
      · have hn2 : ∀ u, u < T → (pd_it pd_c2 T t q1 m1 j).1 j u ≠ 2 := fun u hu z => hn u hu (by show (pd_it pd_c2 T t q1 m1 j).1 j u - 1 = 1; omega)
        have i := ih (j + 1) st (upd hd j (-1)) (by omega)
        rw [pd_it_t hc] at i
        dsimp only at i
        rw [(pd_h_none R.1 hjL ht e hn2).1, (pd_h_none R.1 hjL ht e hn2).2] at i
        exact nm_r (nI_1 _) (i (pd_R_hold0 R hjL ht e hn2))
      · have en : (pd_it pd_c2 T t q1 m1 j).1 j u = 2 := by have z : (pd_it pd_c2 T t q1 m1 j).1 j u - 1 = 1 := eu; omega
        have hN := pd_h_next R.1 hjL ht e hu en
        have i := ih (j + 1) st' (upd hd j (nI u)) (by omega)
        rw [pd_it_t hc] at i
        dsimp only at i
        rw [hN.1, hN.2] at i
        refine nm_r (nI_1 _) (i (pd_R_hold1 R hjL ht e hu en (fun z => by rw [z] at en; omega) (fun w => w1 ?_) (fun w => w0 ?_)))
        · rw [pd_W_p, hN.1] at w
          exact w
        · intro a ha
          rw [← hN.1]
          exact Classical.byContradiction (fun z => w (pd_W_p.mpr ⟨a, ha, z⟩))
    · have hc : ¬ pd_c2 ((pd_it pd_c2 T t q1 m1 j).1 j t) = true := fun z => e (pd_c2_iff.mp z)
      have i := ih (j + 1) st hd (by omega)
      rw [pd_it_f hc] at i
      exact br_f (fun z => e (hH.mp z)) (nm_r (nI_1 _) (i R))
theorem xw_end1 {T L S : Nat} {n : Int32} {st pr hd vl : Nat → Int32} {q : Nat → Nat → Nat} {m : Nat → Nat → Int32} {post : St2 → Prop} {t : Nat} {v : Int32} {s : Nat → Int32} (hT : T ≤ 8) (hL : L ≤ 12) (ht : t < T)
    (K : pd_R t T L (pd_it pd_c1 T t q m L).1 (pd_it pd_c1 T t q m L).2 s st hd → ∃ k, wX_end_33 post (nI t) v k 0 (nI T) (nI L) (nI S) n st pr hd (pd_xp (pd_p (pd_it pd_c1 T t q m L).1)) (pd_x ((pd_it pd_c1 T t q m L).2)) vl) :
    ∀ d j, j + d = L → pd_R t T L (pd_it pd_c1 T t q m j).1 (pd_it pd_c1 T t q m j).2 s st hd →
      wX_end_2 post (nI t) v (d + 1) (nI j) (nI T) (nI L) (nI S) n st pr hd (pd_xp (pd_p (pd_it pd_c1 T t q m j).1)) (pd_x ((pd_it pd_c1 T t q m j).2)) vl := by
  intro d
  induction d with
  | zero =>
    intro j hj R
    have e : j = L := by omega
    subst e
    exact br_t (nI_le (Nat.le_refl _) (by omega)) (K R)
  | succ d ih =>
    intro j hj R
    have hjL : j < L := by omega
    have hq := R.1.2.2.2
    have i := ih (j + 1) (by omega)
    refine br_f (nI_ge (by omega) (by omega)) (xw_isQ (pd_p_lt hq) (by omega) (by omega) (fun z => br_f (by decide) (xw_take hT (pd_p_lt hq) (by omega) (by omega) ?_)) (fun z => br_t rfl (nm_r (nI_1 _) ?_)))
    · have e : 2 ≤ (pd_it pd_c1 T t q m j).1 j t := by have y : (pd_it pd_c1 T t q m j).1 j t - 1 ≠ 0 := z; omega
      rw [pd_it_t (pd_c1_iff.mpr e)] at i
      dsimp only at i
      rw [← pd_q_p e, pd_q_m e] at i
      exact nm_r (nI_1 _) (i (pd_R_queued R hjL ht e))
    · have e : ¬ pd_c1 ((pd_it pd_c1 T t q m j).1 j t) = true := fun y => by
        have y2 := pd_c1_iff.mp y
        have y3 : (pd_it pd_c1 T t q m j).1 j t - 1 = 0 := z
        omega
      rw [pd_it_f e] at i
      exact i R
theorem xw_end {T L S : Nat} {n : Int32} {st pr hd vl : Nat → Int32} {q : Nat → Nat → Nat} {m : Nat → Nat → Int32} {post : St2 → Prop} {t : Nat} {v : Int32} {s : Nat → Int32} (hT : T ≤ 8) (hL : L ≤ 12) (ht : t < T) (hv : v = 0 ∨ v = 3) (R : pd_R 8 T L q m s st hd)
    (K : ∀ st' hd' : Nat → Int32, pd_R 8 T L (pd_end T L t q m).1 (pd_end T L t q m).2 (upd s t v) st' hd' → post (nI T, nI L, nI S, n, st', pr, hd', pd_xp (pd_p (pd_end T L t q m).1), pd_x ((pd_end T L t q m).2), vl)) :
    wpX_end post (nI T, nI L, nI S, n, st, pr, hd, pd_xp (pd_p q), pd_x m, vl) (nI t) v :=
  ⟨L + 1, xw_end1 (q := q) hT hL ht (fun R1 => ⟨L + 1, xw_end2 (q1 := (pd_it pd_c1 T t q m L).1) (m1 := (pd_it pd_c1 T t q m L).2) hT hL ht (fun st' hd' R2 => K (upd st' t v) hd' (pd_R_end R2 (fun l hl => pd_end_0 l hl) hv)) L 0 st hd (by omega) R1⟩) L 0 (by omega) (pd_R_any t hT R)⟩
/-! marks -/
theorem xw_mark_l {T L S : Nat} {n : Int32} {st pr hd vl : Nat → Int32} {p : Nat → Nat → Nat} {m : Nat → Nat → Int32} {post : St2 → Prop} {l : Nat} (hT : T ≤ 8) (hb : ∀ a b, p a b < 16) (hl : l < 12) (hp : post (nI T, nI L, nI S, n, st, pr, hd, pd_xp p, pd_x (pd_mk (fun a b => decide (a = l ∧ b < T ∧ p a b ≠ 0)) m), vl)) :
    ∀ d j, j + d = T → wX_markQueue_2 post (nI l) (nI T) (nI L) (nI S) n (d + 1) (nI j) st pr hd (pd_xp p) (pd_x (pd_mk (fun a b => decide (a = l ∧ b < j ∧ p a b ≠ 0)) m)) vl := by
  intro d
  induction d with
  | zero =>
    intro j hj
    have e : j = T := by omega
    subst e
    exact br_t (nI_le (Nat.le_refl _) (by omega)) hp
  | succ d ih =>
    intro j hj
    have i := ih (j + 1) (by omega)
    refine br_f (nI_ge (by omega) (by omega)) (xw_isQ hb hl (by omega) (fun z => br_f (by decide) ?_) (fun z => br_t rfl (nm_r (nI_1 _) ?_)))
    · rw [pd_ix8, nI_clamp (n := l * 8 + j) (by omega), pd_x_upd _ (by omega)]
      rw [pd_mk_s (p' := fun a b => decide (a = l ∧ b < j + 1 ∧ p a b ≠ 0)) (fun a b => ?_)]
      · exact ⟨vp_in_nI (by omega) (by decide), nm_e (nm_r (nI_1 _) i)⟩
      · simp only [decide_eq_true_eq]
        constructor
        · intro y
          by_cases c : b = j
          · exact Or.inl ⟨y.1, c⟩
          · exact Or.inr ⟨y.1, by omega, y.2.2⟩
        · intro y
          rcases y with y | y
          · exact ⟨y.1, by omega, by rw [y.1, y.2]; exact z⟩
          · exact ⟨y.1, by omega, y.2.2⟩
    · rw [← pd_mk_c (p := fun a b => decide (a = l ∧ b < j ∧ p a b ≠ 0)) (fun a b => ?_)] at i
      · exact i
      · simp only [decide_eq_true_eq]
        constructor
        · intro y
          have : b ≠ j := fun c => y.2.2 (by rw [y.1, c]; exact z)
          exact ⟨y.1, by omega, y.2.2⟩
        · intro y
          exact ⟨y.1, by omega, y.2.2⟩
theorem xw_mark {T L S : Nat} {n : Int32} {st pr hd vl : Nat → Int32} {p : Nat → Nat → Nat} {m : Nat → Nat → Int32} {post : St2 → Prop} {l : Nat} (hT : T ≤ 8) (hb : ∀ a b, p a b < 16) (hl : l < 12) (hp : post (nI T, nI L, nI S, n, st, pr, hd, pd_xp p, pd_x (pd_mk (fun a b => decide (a = l ∧ b < T ∧ p a b ≠ 0)) m), vl)) : wpX_markQueue post (nI T, nI L, nI S, n, st, pr, hd, pd_xp p, pd_x m, vl) (nI l) := by
  have i := xw_mark_l hT hb hl hp T 0 (by omega)
  rw [← pd_mk_c (p := fun _ _ => false) (fun a b => by simp), pd_mk_0] at i
  exact ⟨T + 1, i⟩
