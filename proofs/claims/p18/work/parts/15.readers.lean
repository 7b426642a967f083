/-! the component's answers -/
theorem xr_waits {T L S : Nat} {n : Int32} {st pr hd vl : Nat → Int32} {q : Nat → Nat → Nat} {m : Nat → Nat → Int32} {post : Int32 → Prop} {x t u : Nat} {s : Nat → Int32} (hT : T ≤ 8) (hL : L ≤ 12) (R : pd_R x T L q m s st hd) (ht : t < T) (hu : u < T) (ne : t ≠ u)
    (h2 : pd_E T L q m t u → post 2) (h1 : ¬ pd_E T L q m t u → pd_E1 T L q t u → post 1) (h0 : ¬ pd_E T L q m t u → ¬ pd_E1 T L q t u → post 0) : wpX_waitsFor post (nI T, nI L, nI S, n, st, pr, hd, pd_xp (pd_p q), pd_x m, vl) (nI t) (nI u) := by
  unfold wpX_waitsFor
  dsimp only
  refine xw_isT_t hT ht (br_f (by decide) (xw_isT_t hT hu (br_f (by decide) ?_)))
  refine br_f (fun z => ne ((nI_eq (by omega) (by omega)).mp z)) (xw_rep hT hL R ht (fun r h => xw_has (by omega) (fun y => br_f (by decide) (h2 ((h u (by omega)).mp y))) (fun y => br_t rfl (xw_all hT hL R ht (fun r' h' => xw_has (by omega) (fun y' => br_f (by decide) ?_) (fun y' => br_t rfl ?_))))))
  · exact h1 (fun z => by rw [(h u (by omega)).mpr z] at y; exact nomatch y) ((h' u (by omega)).mp y')
  · exact h0 (fun z => by rw [(h u (by omega)).mpr z] at y; exact nomatch y) (fun z => by rw [(h' u (by omega)).mpr z] at y'; exact nomatch y')
theorem xr_state {T L S : Nat} {n : Int32} {st pr hd vl : Nat → Int32} {p : Nat → Nat → Nat} {m : Nat → Nat → Int32} {post : Int32 → Prop} {t : Nat} (hT : T ≤ 8) (ht : t < T) (hp : post (st t)) : wpX_state post (nI T, nI L, nI S, n, st, pr, hd, pd_xp p, pd_x m, vl) (nI t) := by
  unfold wpX_state
  dsimp only
  rw [nI_clamp (n := t) (by omega)]
  exact xw_isT_t hT ht (br_f (by decide) ⟨vp_in_nI (by omega) (by decide), hp⟩)
theorem xr_victim {T L S : Nat} {st pr hd vl : Nat → Int32} {p : Nat → Nat → Nat} {m : Nat → Nat → Int32} {post : Int32 → Prop} {k c : Nat} (hc : c ≤ 8) (hk : k < c) (hp : post (vl k)) : wpX_victim post (nI T, nI L, nI S, nI c, st, pr, hd, pd_xp p, pd_x m, vl) (nI k) := by
  unfold wpX_victim
  dsimp only
  rw [nI_clamp (n := k) (by omega)]
  exact br_f (nI_pos (by omega)) (br_f (nI_ge hk (by omega)) ⟨vp_in_nI (by omega) (by decide), hp⟩)
theorem xr_holder {T L S : Nat} {n : Int32} {st pr hd vl : Nat → Int32} {p : Nat → Nat → Nat} {m : Nat → Nat → Int32} {post : Int32 → Prop} {l : Nat} (hL : L ≤ 12) (hl : l < L) (hp : post (hd l)) : wpX_holder post (nI T, nI L, nI S, n, st, pr, hd, pd_xp p, pd_x m, vl) (nI l) := by
  unfold wpX_holder
  dsimp only
  rw [nI_clamp (n := l) (by omega)]
  exact xw_isL_t hL hl (br_f (by decide) ⟨vp_in_nI (by omega) (by decide), hp⟩)
theorem xr_waiter {T L S : Nat} {n : Int32} {st pr hd vl : Nat → Int32} {q : Nat → Nat → Nat} {m : Nat → Nat → Int32} {post : Int32 → Prop} {l i : Nat} (hT : T ≤ 8) (hL : L ≤ 12) (hb : ∀ a b, q a b < 16) (hl : l < L) (hi : i < T) (h1 : ∀ t, t < T → q l t = i + 2 → post (nI t)) (h0 : (∀ t, t < T → q l t ≠ i + 2) → post (-1)) : wpX_waiter post (nI T, nI L, nI S, n, st, pr, hd, pd_xp (pd_p q), pd_x m, vl) (nI l) (nI i) := by
  unfold wpX_waiter
  dsimp only
  rw [show (1 : Int32) + nI i = nI (i + 1) from (nI_add 1 i).trans (congrArg nI (Nat.add_comm 1 i))]
  refine xw_isL_t hL hl (br_f (by decide) (br_f (nI_pos (by omega)) (br_t (nI_lt hi (by omega)) (xw_at hT (pd_p_lt hb) (by omega) (by omega) (fun t ht e => h1 t ht ?_) (fun hn => h0 (fun t ht e => hn t ht ?_))))))
  · have z : q l t - 1 = i + 1 := e
    omega
  · show q l t - 1 = i + 1
    omega
theorem xr_reported {T L S : Nat} {n : Int32} {st pr hd vl : Nat → Int32} {p : Nat → Nat → Nat} {m : Nat → Nat → Int32} {post : Int32 → Prop} {l t : Nat} (hT : T ≤ 8) (hL : L ≤ 12) (ht : t < T) (hl : l < L) (h1 : m l t ≠ 0 → post 1) (h0 : m l t = 0 → post 0) : wpX_reported post (nI T, nI L, nI S, n, st, pr, hd, pd_xp p, pd_x m, vl) (nI t) (nI l) := by
  unfold wpX_reported
  dsimp only
  rw [pd_ix8, nI_clamp (n := l * 8 + t) (by omega), pd_x_at m (by omega)]
  exact xw_isT_t hT ht (br_f (by decide) (xw_isL_t hL hl (br_f (by decide) ⟨vp_in_nI (by omega) (by decide), br_c h0 h1⟩)))
theorem xr_prio {T L S : Nat} {n : Int32} {st pr hd vl : Nat → Int32} {q : Nat → Nat → Nat} {m : Nat → Nat → Int32} {post : Int32 → Prop} {t : Nat} {s : Nat → Int32} (hT : T ≤ 8) (ht : t < T) (hS : pd_S L q s st t) (h1 : s t = 1 → post (pr t)) (h0 : s t ≠ 1 → post (-1)) : wpX_priority post (nI T, nI L, nI S, n, st, pr, hd, pd_xp (pd_p q), pd_x m, vl) (nI t) := by
  unfold wpX_priority
  dsimp only
  have hl := pd_S_live hS
  rw [nI_clamp (n := t) (by omega)]
  exact xw_isT_t hT ht (br_f (by decide) (xw_live (by omega) (fun z => br_f (by decide) ⟨vp_in_nI (by omega) (by decide), h1 (hl.mp z)⟩) (fun z => br_t rfl (h0 (fun y => z (hl.mpr y))))))
/-! the calls that end nobody by themselves: edges only vanish, nobody becomes a victim -/
def pe_St (T L : Nat) (q : Nat → Nat → Nat) (m : Nat → Nat → Int32) (s : Nat → Int32) (q' : Nat → Nat → Nat) (m' : Nat → Nat → Int32) (s' : Nat → Int32) : Prop :=
  (∀ a b, pd_E T L q' m' a b → pd_E T L q m a b) ∧ (∀ v, s' v = 3 → s v = 3)
theorem pe_St_id {T L : Nat} {q : Nat → Nat → Nat} {m : Nat → Nat → Int32} {s : Nat → Int32} : pe_St T L q m s q m s := ⟨fun _ _ h => h, fun _ h => h⟩
theorem pe_set {T L : Nat} {q : Nat → Nat → Nat} {m : Nat → Nat → Int32} {s : Nat → Int32} {l t k : Nat} (h : pd_G T L q m s) (hl : l < L) (ht : t < T) (e : q l t = 0) (hk : ∀ a, a < T → q l a ≤ k) (a b : Nat) (z : pd_E T L (pd_set q l t k) m a b) : pd_E T L q m a b := by
  obtain ⟨ha, hb, l', hl', z1, z2, z3⟩ := z
  have nb : ¬ (l' = l ∧ a = t) := fun c => by
    rw [c.1, c.2] at z1
    have := h.2.1 l t hl ht z1
    omega
  rw [pd_set_ne _ _ _ _ nb] at z3
  by_cases c : l' = l ∧ b = t
  · rw [c.1, c.2, pd_set_at] at z3
    have := hk a ha
    omega
  · rw [pd_set_ne _ _ _ _ c] at z2 z3
    exact ⟨ha, hb, l', hl', z1, z2, z3⟩
theorem pe_rem_sub {T L : Nat} {q : Nat → Nat → Nat} {m : Nat → Nat → Int32} {s : Nat → Int32} {l t : Nat} (h : pd_G T L q m s) (hl : l < L) (ht : t < T) (e : q l t ≠ 0) (a b : Nat) (z : pd_E T L (pd_rem T q l t) (pd_mrem T q m l t) a b) : pd_E T L q m a b := by
  by_cases na : a = t
  · obtain ⟨ha, hb, l', hl', z1, z2, z3⟩ := z
    by_cases y : l' = l
    · exact absurd (if_pos ⟨y, Or.inl na⟩ : pd_mrem T q m l t l' a = 0) z1
    · rw [show pd_mrem T q m l t l' a = m l' a from if_neg (fun c => y c.1)] at z1
      rw [pd_rem_rows _ _ _ _ y] at z2 z3
      exact ⟨ha, hb, l', hl', z1, z2, z3⟩
  · by_cases nb : b = t
    · obtain ⟨ha, hb, l', hl', z1, z2, z3⟩ := z
      by_cases y : l' = l
      · rw [y, nb, pd_rem_t] at z2
        exact absurd rfl z2
      · rw [show pd_mrem T q m l t l' a = m l' a from if_neg (fun c => y c.1)] at z1
        rw [pd_rem_rows _ _ _ _ y] at z2 z3
        exact ⟨ha, hb, l', hl', z1, z2, z3⟩
    · exact (pe_rem h hl ht e na nb).mp z
theorem xr_begin {T L S : Nat} {n : Int32} {st pr hd vl : Nat → Int32} {q : Nat → Nat → Nat} {m : Nat → Nat → Int32} {post : Int32 → St2 → Prop} {t : Nat} {v2 : Int32} {s : Nat → Int32} (hT : T ≤ 8) (R : pd_R 8 T L q m s st hd) (ht : t < T)
    (K : ∀ (r : Int32) (s' st' pr' : Nat → Int32), pd_R 8 T L q m s' st' hd → pe_St T L q m s q m s' → post r (nI T, nI L, nI S, n, st', pr', hd, pd_xp (pd_p q), pd_x m, vl)) : wpX_begin post (nI T, nI L, nI S, n, st, pr, hd, pd_xp (pd_p q), pd_x m, vl) (nI t) v2 := by
  have hi : vp_in (nI t) 8 := vp_in_nI (by omega) (by decide)
  have hS := pd_S_live (R.2.2 t ht (by omega))
  unfold wpX_begin
  dsimp only
  rw [nI_clamp (n := t) (by omega)]
  refine xw_isT_t hT ht (br_f (by decide) (br_c (fun _ => K 0 s st pr R pe_St_id) (fun _ => br_c (fun _ => K 0 s st pr R pe_St_id) (fun _ => xw_live (by omega) (fun z => br_f (by decide) (K 0 s st pr R pe_St_id)) (fun z => br_t rfl ⟨hi, nm_e ⟨hi, nm_e ?_⟩⟩)))))
  refine K 1 (upd s t 1) (upd st t 1) (upd pr t v2) (pd_R_begin R ht (fun y => z (hS.mpr y))) ⟨fun _ _ h => h, fun v e => ?_⟩
  by_cases w : v = t
  · rw [w, pk_us] at e; exact absurd e (by decide)
  · rw [pk_un w] at e; exact e
theorem xr_request {T L S : Nat} {n : Int32} {st pr hd vl : Nat → Int32} {q : Nat → Nat → Nat} {m : Nat → Nat → Int32} {post : Int32 → St2 → Prop} {t : Nat} {v2 : Int32} {s : Nat → Int32} (hT : T ≤ 8) (hL : L ≤ 12) (R : pd_R 8 T L q m s st hd) (ht : t < T)
    (K : ∀ (r : Int32) (q' : Nat → Nat → Nat) (st' hd' : Nat → Int32), pd_R 8 T L q' m s st' hd' → pe_St T L q m s q' m s → post r (nI T, nI L, nI S, n, st', pr, hd', pd_xp (pd_p q'), pd_x m, vl)) : wpX_request post (nI T, nI L, nI S, n, st, pr, hd, pd_xp (pd_p q), pd_x m, vl) (nI t) v2 := by
  have hb := R.1.2.2.2
  have K0 := K 0 q st hd R pe_St_id
  have hS := pd_S_live (R.2.2 t ht (by omega))
  unfold wpX_request
  dsimp only
  refine xw_isT_t hT ht (br_f (by decide) ?_)
  rcases pk_ix v2 (n := L) (by omega) with h | h | ⟨l, hl, rfl⟩
  · exact xw_isL_f (Or.inl h) (br_t rfl K0)
  · exact xw_isL_f (Or.inr h) (br_t rfl K0)
  · have hl12 : vp_in (nI l) 12 := vp_in_nI (by omega) (by decide)
    have hH := R.2.1 l hl
    rw [nI_clamp (n := l) (by omega), nI_clamp (n := t) (by omega)]
    refine xw_isL_t hL hl (br_f (by decide) (xw_live (by omega) (fun z => br_f (by decide) ⟨hl12, ?_⟩) (fun z => br_t rfl K0)))
    have hs := hS.mp z
    refine br_c (fun _ => K0) (fun e1' => xw_isQ (pd_p_lt hb) (by omega) (by omega) (fun y => br_f (by decide) K0) (fun y => br_t rfl ⟨hl12, ?_⟩))
    have e1 : q l t ≠ 1 := fun y => e1' ((pd_H_iff hT hH ht).mpr y)
    have e0 : q l t = 0 := by have y2 : q l t - 1 = 0 := y; omega
    by_cases eh : hd l = -1
    · have hn := (pd_H_none hT hH).mp eh
      have n0 := pd_n_0 (R.1.1 l hl) hn
      have ep : pd_p (pd_set q l t 1) = pd_p q := by
        funext x y
        show pd_set q l t 1 x y - 1 = q x y - 1
        by_cases w : x = l ∧ y = t
        · rw [w.1, w.2, pd_set_at, e0]
        · rw [pd_set_ne _ _ _ _ w]
      have k := K 1 (pd_set q l t 1) st (upd hd l (nI t)) (pd_R_grant hT R hl ht e0 hs hn) ⟨pe_set R.1 hl ht e0 (fun a ha => by have := (R.1.1 l hl).1 a ha; omega), fun _ h => h⟩
      rw [ep] at k
      exact br_t eh ⟨hl12, nm_e k⟩
    · have hh : ∃ u, u < T ∧ q l u = 1 := Classical.byContradiction (fun w => eh (hH.2 (fun u hu z => w ⟨u, hu, z⟩)))
      obtain ⟨u, hu, eu⟩ := hh
      have nt := pd_n_tail (R.1.1 l hl) hu eu
      have ep : pd_p (pd_set q l t (pd_n T (q l) + 1)) = pd_set (pd_p q) l t (pd_n T (pd_p q l) + 1) := by
        funext x y
        show pd_set q l t (pd_n T (q l) + 1) x y - 1 = _
        by_cases w : x = l ∧ y = t
        · rw [w.1, w.2, pd_set_at, pd_set_at, nt]
          rfl
        · rw [pd_set_ne _ _ _ _ w, pd_set_ne _ _ _ _ w]
          rfl
      have k := K 2 (pd_set q l t (pd_n T (q l) + 1)) (upd st t 2) hd (pd_R_queue hT R hl ht e0 hs (by omega)) ⟨pe_set R.1 hl ht e0 (fun a ha => by have := (R.1.1 l hl).1 a ha; omega), fun _ h => h⟩
      rw [ep] at k
      exact br_f eh (xw_enqueue hT (pd_p_lt hb) (by omega) (by omega) ⟨vp_in_nI (by omega) (by decide), nm_e k⟩)
theorem xr_drop {T L S : Nat} {n : Int32} {st pr hd vl : Nat → Int32} {q : Nat → Nat → Nat} {m : Nat → Nat → Int32} {post : Int32 → St2 → Prop} {t : Nat} {v2 : Int32} {s : Nat → Int32} (hT : T ≤ 8) (hL : L ≤ 12) (R : pd_R 8 T L q m s st hd) (ht : t < T)
    (K : ∀ (r : Int32) (q' : Nat → Nat → Nat) (m' : Nat → Nat → Int32) (st' hd' : Nat → Int32), pd_R 8 T L q' m' s st' hd' → pe_St T L q m s q' m' s → post r (nI T, nI L, nI S, n, st', pr, hd', pd_xp (pd_p q'), pd_x (m'), vl)) : wpX_drop post (nI T, nI L, nI S, n, st, pr, hd, pd_xp (pd_p q), pd_x m, vl) (nI t) v2 := by
  have hb := R.1.2.2.2
  have K0 := K 0 q m st hd R pe_St_id
  unfold wpX_drop
  dsimp only
  refine xw_isT_t hT ht (br_f (by decide) ?_)
  rcases pk_ix v2 (n := L) (by omega) with h | h | ⟨l, hl, rfl⟩
  · exact xw_isL_f (Or.inl h) (br_t rfl K0)
  · exact xw_isL_f (Or.inr h) (br_t rfl K0)
  · have hl12 : vp_in (nI l) 12 := vp_in_nI (by omega) (by decide)
    have hH := R.2.1 l hl
    rw [nI_clamp (n := l) (by omega)]
    refine xw_isL_t hL hl (br_f (by decide) ⟨hl12, ?_⟩)
    by_cases e1 : q l t = 1
    · have hE := pe_rem_sub R.1 hl ht (by omega : q l t ≠ 0)
      refine br_t ((pd_H_iff hT hH ht).mpr e1) (xw_pass hT hL (pd_p_lt hb) (by omega) (fun hn => ?_) (fun u hu eu st' w1 w0 => ?_))
      · have hn2 : ∀ u, u < T → q l u ≠ 2 := fun u hu z => hn u hu (by show q l u - 1 = 1; omega)
        have hN := pd_h_none R.1 hl ht e1 hn2
        rw [hN.2] at hE
        have k := K 3 (pd_rem T q l t) m st (upd hd l (-1)) (pd_R_hold0 R hl ht e1 hn2) ⟨hE, fun _ h => h⟩
        rw [hN.1] at k
        exact k
      · have en : q l u = 2 := by have z : q l u - 1 = 1 := eu; omega
        have hN := pd_h_next R.1 hl ht e1 hu en
        rw [hN.2] at hE
        have k := K 3 (pd_rem T q l t) (pd_set m l u 0) st' (upd hd l (nI u)) (pd_R_hold1 (st' := st') R hl ht e1 hu en (by omega) (fun w => w1 (by rw [pd_W_p, hN.1] at w; exact w)) (fun w => w0 (fun a ha => by rw [← hN.1]; exact Classical.byContradiction (fun z => w (pd_W_p.mpr ⟨a, ha, z⟩))))) ⟨hE, fun _ h => h⟩
        rw [hN.1] at k
        exact k
    · refine br_f (fun y => e1 ((pd_H_iff hT hH ht).mp y)) (xw_isQ (pd_p_lt hb) (by omega) (by omega) (fun y => br_f (by decide) (xw_take hT (pd_p_lt hb) (by omega) (by omega) ?_)) (fun y => br_t rfl K0))
      have e2 : 2 ≤ q l t := by have z : q l t - 1 ≠ 0 := y; omega
      have hE := pe_rem_sub R.1 hl ht (by omega : q l t ≠ 0)
      have eX := pd_q_p (T := T) e2
      rw [pd_q_m (T := T) (m := m) e2] at hE
      have fin : ∀ st' : Nat → Int32, (pd_W L (pd_rem T q l t) t → st' = st) → (¬ pd_W L (pd_rem T q l t) t → st' = upd st t 1) → post 4 (nI T, nI L, nI S, n, st', pr, hd, pd_xp (pd_rem T (pd_p q) l t), pd_x (pd_set m l t 0), vl) := fun st' w1 w0 => by
        rw [eX]
        exact K 4 (pd_rem T q l t) (pd_set m l t 0) st' hd (pd_R_with hT R hl ht e2 w1 w0) ⟨hE, fun _ h => h⟩
      dsimp only
      refine xw_run (t := t) hL (pd_rem_lt (pd_p_lt hb)) (by omega) (fun z => ?_) (fun z => ?_)
      · have hw : pd_W L (pd_rem T q l t) t := by rw [pd_W_p, ← eX]; exact z
        exact fin st (fun _ => rfl) (fun w => absurd hw w)
      · have hw : ¬ pd_W L (pd_rem T q l t) t := by rw [pd_W_p, ← eX]; exact fun ⟨a, ha, w⟩ => w (z a ha)
        exact fin (upd st t 1) (fun w => absurd w hw) (fun _ => rfl)
theorem pe_St_end {T L : Nat} {q : Nat → Nat → Nat} {m : Nat → Nat → Int32} {s : Nat → Int32} {t : Nat} (h : pd_G T L q m s) (ht : t < T) : pe_St T L q m s (pd_end T L t q m).1 (pd_end T L t q m).2 (upd s t 0) :=
  ⟨fun a b z => ((pe_end h ht a b).mp z).2.2, fun v e => by
    by_cases w : v = t
    · rw [w, pk_us] at e; exact absurd e (by decide)
    · rw [pk_un w] at e; exact e⟩
theorem xr_commit {T L S : Nat} {n : Int32} {st pr hd vl : Nat → Int32} {q : Nat → Nat → Nat} {m : Nat → Nat → Int32} {post : Int32 → St2 → Prop} {t : Nat} {s : Nat → Int32} (hT : T ≤ 8) (hL : L ≤ 12) (R : pd_R 8 T L q m s st hd) (ht : t < T)
    (K : ∀ (r : Int32) (q' : Nat → Nat → Nat) (m' : Nat → Nat → Int32) (s' st' hd' : Nat → Int32), pd_R 8 T L q' m' s' st' hd' → pe_St T L q m s q' m' s' → post r (nI T, nI L, nI S, n, st', pr, hd', pd_xp (pd_p q'), pd_x (m'), vl)) : wpX_commit post (nI T, nI L, nI S, n, st, pr, hd, pd_xp (pd_p q), pd_x m, vl) (nI t) := by
  unfold wpX_commit
  dsimp only
  rw [nI_clamp (n := t) (by omega)]
  exact xw_isT_t hT ht (br_f (by decide) ⟨vp_in_nI (by omega) (by decide), br_c (fun _ => xw_end hT hL ht (Or.inl rfl) R (fun st' hd' R' => K 1 _ _ _ st' hd' R' (pe_St_end R.1 ht))) (fun _ => K 0 q m s st hd R pe_St_id)⟩)
theorem xr_abort {T L S : Nat} {n : Int32} {st pr hd vl : Nat → Int32} {q : Nat → Nat → Nat} {m : Nat → Nat → Int32} {post : Int32 → St2 → Prop} {t : Nat} {s : Nat → Int32} (hT : T ≤ 8) (hL : L ≤ 12) (R : pd_R 8 T L q m s st hd) (ht : t < T)
    (K : ∀ (r : Int32) (q' : Nat → Nat → Nat) (m' : Nat → Nat → Int32) (s' st' hd' : Nat → Int32), pd_R 8 T L q' m' s' st' hd' → pe_St T L q m s q' m' s' → post r (nI T, nI L, nI S, n, st', pr, hd', pd_xp (pd_p q'), pd_x (m'), vl)) : wpX_abort post (nI T, nI L, nI S, n, st, pr, hd, pd_xp (pd_p q), pd_x m, vl) (nI t) := by
  unfold wpX_abort
  dsimp only
  exact xw_isT_t hT ht (br_f (by decide) (xw_live (by omega) (fun _ => br_f (by decide) (xw_end hT hL ht (Or.inl rfl) R (fun st' hd' R' => K 1 _ _ _ st' hd' R' (pe_St_end R.1 ht)))) (fun _ => br_t rfl (K 0 q m s st hd R pe_St_id))))
