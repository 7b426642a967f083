/-! one step of the law: the invariant, and what the next step is given -/
def pe_I (T L : Nat) (q : Nat → Nat → Nat) (m : Nat → Nat → Int32) (s st hd vl : Nat → Int32) (c : Nat) (x7 : Int64) : Prop :=
  pd_R 8 T L q m s st hd ∧ (∀ v, v < T → ¬ pd_C T L q m v) ∧ c ≤ 8 ∧ ∃ w : Nat → Nat, pl_list x7 w c ∧ ∀ k, k < c → vl k = nI (w k)
theorem pe_st3 {L : Nat} {q : Nat → Nat → Nat} {s st : Nat → Int32} {t : Nat} (h : pd_S L q s st t) : st t = 3 ↔ s t = 3 := by
  obtain ⟨h0, h1, h2, h3⟩ := h
  constructor
  · intro e
    by_cases z : s t = 1
    · exfalso
      by_cases w : pd_W L q t
      · rw [h1 z w] at e; exact absurd e (by decide)
      · rw [h2 z w] at e; exact absurd e (by decide)
    · rw [← h3 z]; exact e
  · intro e
    rw [h3 (by rw [e]; decide)]; exact e
theorem ll_fin {T L S : Nat} {st hd vl : Nat → Int32} {q : Nat → Nat → Nat} {m : Nat → Nat → Int32} {N : Nat} {xs : Nat → Int32} {kc ks : Nat} {post : Int32 → Prop} {J94 : Int64 → Int32 → Int32 → Int32 → Int32 → Int32 → Int32 → (Nat → Int32) → (Nat → Int32) → (Nat → Int32) → (Nat → Int32) → (Nat → Int32) → (Nat → Int32) → Prop} {x5 x6 x10 x11 x14 x15 : Int32} {c : Nat} {x7 : Int64} {s s' st' hd' pr' : Nat → Int32} {q' : Nat → Nat → Nat} {m' : Nat → Nat → Int32} (hT : T ≤ 8) (hL : L ≤ 12) (I : pe_I T L q m s st hd vl c x7) (h6 : x11 ≠ 6) (hV : ∀ v, v < T → st v = 3 → bt x15 v = true)
    (K : ∀ (q' : Nat → Nat → Nat) (m' : Nat → Nat → Int32) (s' st' hd' pr' vl' : Nat → Int32) (c' : Nat) (x7' : Int64), pe_I T L q' m' s' st' hd' vl' c' x7' → J94 x7' (nI c') (x10 + 1) (nI T) (nI L) (nI S) (nI c') (st') (pr') (hd') (pd_xp (pd_p q')) (pd_x (m')) (vl'))
    (R : pd_R 8 T L q' m' s' st' hd') (hS : pe_St T L q m s q' m' s') :
    wL_law_892 post N xs J94 (nI T) (nI L) (nI S) x5 x6 x7 (nI c) x10 x11 x14 x15 kc ks (nI T) (nI L) (nI S) (nI c) (st') (pr') (hd') (pd_xp (pd_p q')) (pd_x (m')) vl := by
  obtain ⟨R0, ac, hc, w, hw, hv⟩ := I
  have ac' : ∀ v, v < T → ¬ pd_C T L q' m' v := fun v hv c => ac v hv (pe_mono (fun a b z _ => ⟨hS.1 a b z, trivial⟩) c)
  refine ll_892 hT hL R ac' (fun e => absurd e h6) (fun _ v hvT e => hV v hvT ?_) hc hw hv (K q' m' s' st' hd' pr' vl c x7 ⟨R, ac', hc, w, hw, hv⟩)
  exact (pe_st3 (R0.2.2 v hvT (by omega))).mpr (hS.2 v ((pe_st3 (R.2.2 v hvT (by omega))).mp e))
theorem ll_779_0 {T L S : Nat} {st pr hd vl : Nat → Int32} {q : Nat → Nat → Nat} {m : Nat → Nat → Int32} {N : Nat} {xs : Nat → Int32} {kc ks : Nat} {post : Int32 → Prop} {J94 : Int64 → Int32 → Int32 → Int32 → Int32 → Int32 → Int32 → (Nat → Int32) → (Nat → Int32) → (Nat → Int32) → (Nat → Int32) → (Nat → Int32) → (Nat → Int32) → Prop} {x5 x6 x10 x11 x13 x14 x15 : Int32} {c t : Nat} {x7 : Int64} {s : Nat → Int32} (hT : T ≤ 8) (hL : L ≤ 12) (hS : S ≤ 4) (I : pe_I T L q m s st hd vl c x7) (ht : t < T) (hV : ∀ v, v < T → st v = 3 → bt x15 v = true)
    (hk : x11 = 0 ∨ x11 = 1 ∨ x11 = 2 ∨ x11 = 3 ∨ x11 = 4 ∨ (x11 = 5 ∧ nI S ≤ x13))
    (K : ∀ (q' : Nat → Nat → Nat) (m' : Nat → Nat → Int32) (s' st' hd' pr' vl' : Nat → Int32) (c' : Nat) (x7' : Int64), pe_I T L q' m' s' st' hd' vl' c' x7' → J94 x7' (nI c') (x10 + 1) (nI T) (nI L) (nI S) (nI c') (st') (pr') (hd') (pd_xp (pd_p q')) (pd_x (m')) (vl')) :
    wL_law_779 post N xs J94 (nI T) (nI L) (nI S) x5 x6 x7 (nI c) x10 x11 (nI t) x13 x14 x15 kc ks (nI T) (nI L) (nI S) (nI c) st pr hd (pd_xp (pd_p q)) (pd_x m) vl := by
  have R := I.1
  rcases hk with e | e | e | e | e | ⟨e, e2⟩
  · subst e
    exact br_t rfl (xr_begin hT R ht (fun r s' st' pr' R' hS' => ll_fin hT hL I (by decide) hV K R' hS'))
  · subst e
    exact br_f (by decide) (br_t rfl (xr_request hT hL R ht (fun r q' st' hd' R' hS' => ll_fin hT hL I (by decide) hV K R' hS')))
  · subst e
    exact br_f (by decide) (br_f (by decide) (br_t rfl (xr_drop hT hL R ht (fun r q' m' st' hd' R' hS' => ll_fin hT hL I (by decide) hV K R' hS'))))
  · subst e
    exact br_f (by decide) (br_f (by decide) (br_f (by decide) (br_t rfl (xr_commit hT hL R ht (fun r q' m' s' st' hd' R' hS' => ll_fin hT hL I (by decide) hV K R' hS')))))
  · subst e
    exact br_f (by decide) (br_f (by decide) (br_f (by decide) (br_f (by decide) (br_t rfl (xr_abort hT hL R ht (fun r q' m' s' st' hd' R' hS' => ll_fin hT hL I (by decide) hV K R' hS'))))))
  · subst e
    exact br_f (by decide) (br_f (by decide) (br_f (by decide) (br_f (by decide) (br_f (by decide) (br_t rfl (xr_report_f e2 hS (ll_fin hT hL I (by decide) hV K R pe_St_id)))))))
/-- a call that resolves: the marks it makes -/
def pe_mm (T L S : Nat) (q : Nat → Nat → Nat) (m : Nat → Nat → Int32) (x11 : Int32) (x : Nat) : Nat → Nat → Int32 := if x11 = 6 then pd_mk (pd_ma T L q) m else pd_mk (pd_ms S x T L q) m
theorem ll_779_1 {T L S : Nat} {n : Int32} {st pr hd vl : Nat → Int32} {q : Nat → Nat → Nat} {m : Nat → Nat → Int32} {N : Nat} {xs : Nat → Int32} {kc ks : Nat} {post : Int32 → Prop} {J94 : Int64 → Int32 → Int32 → Int32 → Int32 → Int32 → Int32 → (Nat → Int32) → (Nat → Int32) → (Nat → Int32) → (Nat → Int32) → (Nat → Int32) → (Nat → Int32) → Prop} {x5 x6 x10 x11 x12 x13 x14 x15 : Int32} {c x : Nat} {w : Nat → Nat} {x7 : Int64} {s : Nat → Int32} (hT2 : 2 ≤ T) (hT : T ≤ 8) (hL : L ≤ 12) (hS1 : 1 ≤ S) (hS : S ≤ 4) (R : pd_R 8 T L q m s st hd) (h14 : x14 ≠ 0)
    (hk : x11 = 6 ∨ (x11 = 5 ∧ x13 = nI x ∧ x < S)) (hr : pe_run T L pr q (pe_mm T L S q m x11 x) w c) (hw : pl_list x7 w c)
    (K : ∀ (q' : Nat → Nat → Nat) (m' : Nat → Nat → Int32) (s' st' hd' pr' vl' : Nat → Int32) (c' : Nat) (x7' : Int64), pe_I T L q' m' s' st' hd' vl' c' x7' → J94 x7' (nI c') (x10 + 1) (nI T) (nI L) (nI S) (nI c') (st') (pr') (hd') (pd_xp (pd_p q')) (pd_x (m')) (vl')) :
    wL_law_779 post N xs J94 (nI T) (nI L) (nI S) x5 x6 x7 (nI c) x10 x11 x12 x13 x14 x15 kc ks (nI T) (nI L) (nI S) n st pr hd (pd_xp (pd_p q)) (pd_x m) vl := by
  have hc : c ≤ 8 := Nat.le_trans hr.1 hT
  rcases hk with e | ⟨e, e2, e3⟩
  · subst e
    have em : pe_mm T L S q m 6 x = pd_mk (pd_ma T L q) m := if_pos rfl
    rw [em] at hr
    have ac := pe_run_acy hT hr
    have al : pe_all1 T L q (pd_mk (pd_ma T L q) m) := fun l t hl ht z => by
      show (if pd_ma T L q l t = true then (1 : Int32) else m l t) ≠ 0
      have e : pd_ma T L q l t = true := decide_eq_true ⟨hl, ht, z⟩
      rw [if_pos e]
      decide
    exact br_f (by decide) (br_f (by decide) (br_f (by decide) (br_f (by decide) (br_f (by decide) (br_f (by decide) (xr_settle hT2 hT hL R hr (fun s' st' hd' vl' R' hv => ll_892 hT hL R' ac (fun _ => pe_all_at al c) (fun z => absurd z h14) hc hw hv (K _ _ s' st' hd' pr vl' c x7 ⟨R', ac, hc, w, hw, hv⟩))))))))
  · subst e
    subst e2
    have em : pe_mm T L S q m 5 x = pd_mk (pd_ms S x T L q) m := if_neg (by decide)
    rw [em] at hr
    have ac := pe_run_acy hT hr
    exact br_f (by decide) (br_f (by decide) (br_f (by decide) (br_f (by decide) (br_f (by decide) (br_t rfl (xr_report hT2 hT hL hS1 hS e3 R hr (fun s' st' hd' vl' R' hv => ll_892 hT hL R' ac (fun z => absurd z (by decide)) (fun z => absurd z h14) hc hw hv (K _ _ s' st' hd' pr vl' c x7 ⟨R', ac, hc, w, hw, hv⟩))))))))
/-! the picks -/
def pe_pp (s pr : Nat → Int32) : Nat → Int32 := fun x => if s x = 1 then pr x else -1
theorem xr_pp {T L S : Nat} {n : Int32} {st pr hd vl : Nat → Int32} {q : Nat → Nat → Nat} {m : Nat → Nat → Int32} {post : Int32 → Prop} {t : Nat} {s : Nat → Int32} (hT : T ≤ 8) (ht : t < T) (hS : pd_S L q s st t) (hp : post (pe_pp s pr t)) : wpX_priority post (nI T, nI L, nI S, n, st, pr, hd, pd_xp (pd_p q), pd_x m, vl) (nI t) := by
  refine xr_prio hT ht hS (fun z => ?_) (fun z => ?_)
  · rw [show pe_pp s pr t = pr t from if_pos z] at hp; exact hp
  · rw [show pe_pp s pr t = -1 from if_neg z] at hp; exact hp
theorem pe_le_lt {x y : Int32} (h : x ≤ y) : x < y ∨ x = y := by
  rw [Int32.le_iff_toInt_le] at h
  rw [Int32.lt_iff_toInt_lt, ← Int32.toInt_inj]
  omega
theorem ll_685 {T L S : Nat} {n : Int32} {st pr hd vl : Nat → Int32} {q : Nat → Nat → Nat} {m : Nat → Nat → Int32} {N : Nat} {xs : Nat → Int32} {kc ks : Nat} {post : Int32 → Prop} {J94 : Int64 → Int32 → Int32 → Int32 → Int32 → Int32 → Int32 → (Nat → Int32) → (Nat → Int32) → (Nat → Int32) → (Nat → Int32) → (Nat → Int32) → (Nat → Int32) → Prop} {x5 x6 x10 x11 x12 x13 x14 x15 : Int32} {J673 : Int64 → Int32 → Int32 → Int32 → Prop} {c r : Nat} {x7 g : Int64} {rest : Int32} {s : Nat → Int32} (hT : T ≤ 8) (hS : ∀ t, t < T → pd_S L q s st t) (hne : ∃ u, u < T ∧ bt rest u = true)
    (K : ∀ a, a < T → bt rest a = true → (∀ u, u < T → bt rest u = true → u = a ∨ pd_lt (pe_pp s pr) a u) →
      (pe_D (pe_g g) (fun y => bt (rest &&& (((1 : Int32) <<< (nI a &&& 31)) ^^^ (-1))) y = true) a → J673 (x7 ||| ((nI a).toInt64 <<< ((4 * nI c).toInt64 &&& 63))) (nI (c + 1)) (rest &&& (((1 : Int32) <<< (nI a &&& 31)) ^^^ (-1))) (nI (r + 1))) ∧
      (¬ pe_D (pe_g g) (fun y => bt (rest &&& (((1 : Int32) <<< (nI a &&& 31)) ^^^ (-1))) y = true) a → J673 x7 (nI c) (rest &&& (((1 : Int32) <<< (nI a &&& 31)) ^^^ (-1))) (nI (r + 1)))) :
    ∀ d j (v : Int32), j + d = T → ((v = -1 ∧ ∀ u, u < j → bt rest u = false) ∨ (∃ a, v = nI a ∧ a < j ∧ bt rest a = true ∧ ∀ u, u < j → bt rest u = true → u = a ∨ pd_lt (pe_pp s pr) a u)) →
      wL_law_685 post N xs J94 J673 (nI T) (nI L) (nI S) x5 x6 x7 (nI c) x10 x11 x12 x13 x14 x15 g rest (nI r) kc ks (nI T) (nI L) (nI S) n st pr hd (pd_xp (pd_p q)) (pd_x m) vl (d + 1) v (nI j) := by
  intro d
  induction d with
  | zero =>
    intro j v hj h
    have e : j = T := by omega
    subst e
    rcases h with ⟨_, h⟩ | ⟨a, e, ha, hb, hm⟩
    · obtain ⟨u, hu, y⟩ := hne
      rw [h u hu] at y
      exact nomatch y
    · subst e
      obtain ⟨k1, k0⟩ := K a ha hb hm
      exact br_t (nI_le (Nat.le_refl _) (by omega)) (nm_e (lc_cycle (by omega) (fun z => br_f (by decide) (nm_e (nm_r (nI_1 _) (nm_r (nI_1 _) (k1 z))))) (fun z => br_t rfl (nm_r (nI_1 _) (k0 z)))))
  | succ d ih =>
    intro j v hj h
    have hjT : j < T := by omega
    refine br_f (nI_ge (by omega) (by omega)) ?_
    by_cases y : bt rest j = true
    · refine br_t ((pl_t1 rest (by omega)).mpr y) ?_
      rcases h with ⟨e, h⟩ | ⟨a, e, ha, hb, hm⟩
      · subst e
        refine br_t (by decide) (nm_r (nI_1 _) (ih (j + 1) _ (by omega) (Or.inr ⟨j, rfl, by omega, y, fun u hu z => ?_⟩)))
        by_cases w : u = j
        · exact Or.inl w
        · rw [h u (by omega)] at z; exact nomatch z
      · subst e
        refine br_f (nI_pos (by omega)) (xr_pp hT hjT (hS j hjT) (xr_pp hT (by omega) (hS a (by omega)) ?_))
        by_cases z : pe_pp s pr a ≤ pe_pp s pr j
        · refine br_t z (nm_r (nI_1 _) (ih (j + 1) _ (by omega) (Or.inr ⟨a, rfl, by omega, hb, fun u hu zu => ?_⟩)))
          by_cases w : u = j
          · rw [w]
            exact Or.inr ((pe_le_lt z).elim Or.inl (fun k => Or.inr ⟨k, ha⟩))
          · exact hm u (by omega) zu
        · have lt : pd_lt (pe_pp s pr) j a := Or.inl (Int32.not_le.mp z)
          refine br_f z (nm_r (nI_1 _) (ih (j + 1) _ (by omega) (Or.inr ⟨j, rfl, by omega, y, fun u hu zu => ?_⟩)))
          by_cases w : u = j
          · exact Or.inl w
          · rcases hm u (by omega) zu with k | k
            · rw [k]; exact Or.inr lt
            · exact Or.inr (pe_lt_trans lt k)
    · refine br_f (fun z => y ((pl_t1 rest (by omega)).mp z)) (nm_r (nI_1 _) (ih (j + 1) v (by omega) ?_))
      rcases h with ⟨e, h⟩ | ⟨a, e, ha, hb, hm⟩
      · refine Or.inl ⟨e, fun u hu => ?_⟩
        by_cases w : u = j
        · rw [w]
          cases k : bt rest j with
          | false => rfl
          | true => exact absurd k y
        · exact h u (by omega)
      · refine Or.inr ⟨a, e, by omega, hb, fun u hu zu => ?_⟩
        by_cases w : u = j
        · rw [w] at zu; exact absurd zu y
        · exact hm u (by omega) zu
theorem pd_cnt_f : ∀ n, pd_cnt (fun _ => false) n = 0 := by
  intro n
  induction n with
  | zero => rfl
  | succ n ih =>
    show pd_cnt (fun _ => false) n + 0 = 0
    rw [ih]
theorem pd_cnt_ne {f : Nat → Bool} {n : Nat} (h : 1 ≤ pd_cnt f n) : ∃ u, u < n ∧ f u = true := by
  apply Classical.byContradiction
  intro c
  have := pd_cnt_mono f (fun _ => false) n (fun t ht e => absurd ⟨t, ht, e⟩ c)
  rw [pd_cnt_f] at this
  omega
theorem pe_rest {rest : Int32} {a : Nat} (ha : a < 32) (x : Nat) : bt (rest &&& (((1 : Int32) <<< (nI a &&& 31)) ^^^ (-1))) x = (bt rest x && decide (x ≠ a)) := by
  by_cases h : x < 32
  · exact pl_not rest ha h
  · rw [b_big (by omega), b_big (by omega)]
    rfl
theorem ll_673 {T L S : Nat} {n : Int32} {st pr hd vl : Nat → Int32} {q : Nat → Nat → Nat} {m : Nat → Nat → Int32} {N : Nat} {xs : Nat → Int32} {kc ks : Nat} {post : Int32 → Prop} {J94 : Int64 → Int32 → Int32 → Int32 → Int32 → Int32 → Int32 → (Nat → Int32) → (Nat → Int32) → (Nat → Int32) → (Nat → Int32) → (Nat → Int32) → (Nat → Int32) → Prop} {x5 x6 x10 x11 x12 x13 x14 x15 : Int32} {m' : Nat → Nat → Int32} {g : Int64} {s : Nat → Int32} (hT : T ≤ 8) (R : pd_R 8 T L q m s st hd) (hg : pe_kb g (pd_E T L q m'))
    (K : ∀ (x7 : Int64) (w : Nat → Nat) (c : Nat), pe_run T L pr q m' w c → pl_list x7 w c → wL_law_779 post N xs J94 (nI T) (nI L) (nI S) x5 x6 x7 (nI c) x10 x11 x12 x13 x14 x15 kc ks (nI T) (nI L) (nI S) n st pr hd (pd_xp (pd_p q)) (pd_x m) vl) :
    ∀ (d r : Nat) (x7 : Int64) (c : Nat) (rest : Int32) (w : Nat → Nat), r + d = T → pe_pk T L pr q m' s w c (fun y => bt rest y = false) → pl_list x7 w c → c ≤ r → pd_cnt (bt rest) T + r = T →
      wL_law_673 post N xs J94 (nI T) (nI L) (nI S) x5 x6 x10 x11 x12 x13 x14 x15 g kc ks (nI T) (nI L) (nI S) n st pr hd (pd_xp (pd_p q)) (pd_x m) vl (d + 1) x7 (nI c) rest (nI r) := by
  have hD : ∀ (P : Nat → Prop) v, pe_D (pe_g g) P v ↔ pe_D (pd_E T L q m') P v := fun P v => by
    have h8 : ∀ a b, pe_g g a b ↔ pd_E T L q m' a b := fun a b => ⟨fun z => (hg a b z.1 z.2.1).mp z.2.2, fun z => ⟨by have := z.1; omega, by have := z.2.1; omega, (hg a b (by have := z.1; omega) (by have := z.2.1; omega)).mpr z⟩⟩
    exact ⟨fun ⟨u, a, b⟩ => ⟨u, pe_mono (fun x y z p => ⟨(h8 x y).mp z, p⟩) a, (h8 u v).mp b⟩, fun ⟨u, a, b⟩ => ⟨u, pe_mono (fun x y z p => ⟨(h8 x y).mpr z, p⟩) a, (h8 u v).mpr b⟩⟩
  intro d
  induction d with
  | zero =>
    intro r x7 c rest w hr hpk hl hc hn
    exact br_t (nI_le (by omega) (by omega)) (K x7 w c (pe_pk_end hT hpk (by omega) (fun y hy => pd_cnt_zero (bt rest) T (by omega) y hy)) hl)
  | succ d ih =>
    intro r x7 c rest w hr hpk hl hc hn
    refine br_f (nI_ge (by omega) (by omega)) ⟨T + 1, ll_685 hT (fun t ht => R.2.2 t ht (by omega)) (pd_cnt_ne (by omega)) (fun a ha hb hm => ?_) T 0 (-1) (by omega) (Or.inl ⟨rfl, fun u hu => by omega⟩)⟩
    have hr' := pe_rest (rest := rest) (a := a) (by omega)
    have nv : ¬ (bt rest a = false) := fun z => by rw [z] at hb; exact nomatch hb
    have hP : ∀ y, bt (rest &&& (((1 : Int32) <<< (nI a &&& 31)) ^^^ (-1))) y = true ↔ (¬ (bt rest y = false) ∧ y ≠ a) := fun y => by
      rw [hr' y, Bool.and_eq_true, decide_eq_true_eq]
      cases bt rest y <;> simp
    have hK : ∀ y, bt (rest &&& (((1 : Int32) <<< (nI a &&& 31)) ^^^ (-1))) y = false → bt rest y = false ∨ y = a := fun y z => by
      rw [hr' y] at z
      by_cases e : y = a
      · exact Or.inr e
      · left
        cases k : bt rest y with
        | false => rfl
        | true => rw [k] at z; simp [e] at z
    have hK2 : ∀ y, bt rest y = false → bt (rest &&& (((1 : Int32) <<< (nI a &&& 31)) ^^^ (-1))) y = false := fun y z => by
      rw [hr' y, z]; rfl
    have hKa : bt (rest &&& (((1 : Int32) <<< (nI a &&& 31)) ^^^ (-1))) a = false := by
      rw [hr' a]; simp
    have hn' : pd_cnt (bt rest) T = pd_cnt (bt (rest &&& (((1 : Int32) <<< (nI a &&& 31)) ^^^ (-1)))) T + 1 := by
      refine pd_cnt_one _ _ T a ha hKa hb (fun y _ ne => ?_)
      rw [hr' y]; simp [ne]
    have hDC := (hD (fun y => bt (rest &&& (((1 : Int32) <<< (nI a &&& 31)) ^^^ (-1))) y = true) a).trans (pe_pk_D hpk nv hP)
    refine ⟨fun z => ?_, fun z => ?_⟩
    · refine ih (r + 1) _ (c + 1) _ (fun k => if k = c then a else w k) (by omega) (pe_pk_yes (w := w) hT hpk ha hK hK2 hKa (fun k hk => if_neg (by omega)) (if_pos rfl) (hDC.mp z) (fun y hy nk ne hsy hsa => ?_)) (pl_list_s hl (by omega) (by omega) (fun k hk => if_neg (by omega)) (if_pos rfl)) (by omega) (by omega)
      have by1 : bt rest y = true := by
        cases k : bt rest y with
        | true => rfl
        | false => exact absurd k nk
      rcases hm y hy by1 with e | e
      · exact absurd e ne
      · unfold pd_lt at e
        rw [show pe_pp s pr a = pr a from if_pos hsa, show pe_pp s pr y = pr y from if_pos hsy] at e
        exact e
    · exact ih (r + 1) x7 c _ w (by omega) (pe_pk_no hpk hK hK2 (fun y => z (hDC.mpr y))) hl (by omega) (by omega)
