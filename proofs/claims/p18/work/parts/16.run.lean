/-! the marks of a site, of all sites -/
theorem pd_mk_mk {p1 p2 p3 : Nat → Nat → Bool} {m : Nat → Nat → Int32} (h : ∀ a b, p3 a b = true ↔ p1 a b = true ∨ p2 a b = true) : pd_mk p1 (pd_mk p2 m) = pd_mk p3 m := by
  funext a b
  exact pd_if2 (h a b).symm
theorem pd_R_mk {x T L : Nat} {q : Nat → Nat → Nat} {m : Nat → Nat → Int32} {s st hd : Nat → Int32} {p : Nat → Nat → Bool} (h : pd_R x T L q m s st hd) (hm : ∀ a b, p a b = true → 2 ≤ q a b) : pd_R x T L q (pd_mk p m) s st hd :=
  pd_R_mark h (fun l t c => (pd_mk_m c).elim Or.inl (fun y => Or.inr (hm l t y)))
def pd_ms (S x T j : Nat) (q : Nat → Nat → Nat) : Nat → Nat → Bool := fun a b => decide (a < j ∧ a % S = x ∧ b < T ∧ 2 ≤ q a b)
def pd_ma (T j : Nat) (q : Nat → Nat → Nat) : Nat → Nat → Bool := fun a b => decide (a < j ∧ b < T ∧ 2 ≤ q a b)
theorem pd_ms_0 {S x T : Nat} {q : Nat → Nat → Nat} {m : Nat → Nat → Int32} : pd_mk (pd_ms S x T 0 q) m = m := by
  rw [← pd_mk_c (p := fun _ _ => false) (fun a b => by simp [pd_ms]), pd_mk_0]
theorem pd_ma_0 {T : Nat} {q : Nat → Nat → Nat} {m : Nat → Nat → Int32} : pd_mk (pd_ma T 0 q) m = m := by
  rw [← pd_mk_c (p := fun _ _ => false) (fun a b => by simp [pd_ma]), pd_mk_0]
theorem xw_rp_l {T L S : Nat} {n : Int32} {st pr hd vl : Nat → Int32} {q : Nat → Nat → Nat} {m : Nat → Nat → Int32} {post : Int32 → St2 → Prop} {x : Nat} (hT : T ≤ 8) (hL : L ≤ 12) (hS1 : 1 ≤ S) (hS : S ≤ 4) (hx : x < S) (hb : ∀ a b, q a b < 16)
    (K : wpX_resolve (fun u => match u with | (f1, f2, f3, f4, a1, a2, a3, a4, a5, a6) => post f4 (f1, f2, f3, f4, a1, a2, a3, a4, a5, a6)) (nI T, nI L, nI S, n, st, pr, hd, pd_xp (pd_p q), pd_x (pd_mk (pd_ms S x T L q) m), vl)) :
    ∀ d j, j + d = L → wX_report_16 post (nI x) (d + 1) (nI j) (nI T) (nI L) (nI S) n st pr hd (pd_xp (pd_p q)) (pd_x (pd_mk (pd_ms S x T j q) m)) vl := by
  intro d
  induction d with
  | zero =>
    intro j hj
    have e : j = L := by omega
    subst e
    exact br_t (nI_le (Nat.le_refl _) (by omega)) K
  | succ d ih =>
    intro j hj
    have i := ih (j + 1) (by omega)
    refine br_f (nI_ge (by omega) (by omega)) ⟨nI_ne0 (by omega) (by omega), ?_⟩
    rw [pk_rem (by omega) (by omega) (by omega)]
    have hm := Nat.mod_lt j (show 0 < S by omega)
    by_cases z : j % S = x
    · refine br_t (by rw [z]) (xw_mark hT (pd_p_lt hb) (by omega) ?_)
      rw [pd_mk_mk (p3 := pd_ms S x T (j + 1) q) (fun a b => ?_)]
      · exact nm_r (nI_1 _) i
      · simp only [pd_ms, decide_eq_true_eq]
        simp only [pd_p]
        constructor
        · intro y
          by_cases w : a = j
          · exact Or.inl ⟨w, y.2.2.1, by omega⟩
          · exact Or.inr ⟨by omega, y.2⟩
        · intro y
          rcases y with y | y
          · exact ⟨by omega, by rw [y.1]; exact z, y.2.1, by omega⟩
          · exact ⟨by omega, y.2⟩
    · rw [← pd_mk_c (p := pd_ms S x T j q) (fun a b => ?_)] at i
      · exact br_f (fun y => z ((nI_eq (by omega) (by omega)).mp y)) (nm_r (nI_1 _) i)
      · simp only [pd_ms, decide_eq_true_eq]
        constructor
        · intro y
          have : a ≠ j := fun w => z (by rw [← w]; exact y.2.1)
          exact ⟨by omega, y.2⟩
        · intro y
          exact ⟨by omega, y.2⟩
theorem xw_st_l {T L S : Nat} {n : Int32} {st pr hd vl : Nat → Int32} {q : Nat → Nat → Nat} {m : Nat → Nat → Int32} {post : Int32 → St2 → Prop} (hT : T ≤ 8) (hL : L ≤ 12) (hb : ∀ a b, q a b < 16)
    (K : wpX_resolve (fun u => match u with | (f1, f2, f3, f4, a1, a2, a3, a4, a5, a6) => post f4 (f1, f2, f3, f4, a1, a2, a3, a4, a5, a6)) (nI T, nI L, nI S, n, st, pr, hd, pd_xp (pd_p q), pd_x (pd_mk (pd_ma T L q) m), vl)) :
    ∀ d j, j + d = L → wX_settle_2 post (d + 1) (nI j) (nI T) (nI L) (nI S) n st pr hd (pd_xp (pd_p q)) (pd_x (pd_mk (pd_ma T j q) m)) vl := by
  intro d
  induction d with
  | zero =>
    intro j hj
    have e : j = L := by omega
    subst e
    exact br_t (nI_le (Nat.le_refl _) (by omega)) K
  | succ d ih =>
    intro j hj
    have i := ih (j + 1) (by omega)
    refine br_f (nI_ge (by omega) (by omega)) (xw_mark hT (pd_p_lt hb) (by omega) ?_)
    rw [pd_mk_mk (p3 := pd_ma T (j + 1) q) (fun a b => ?_)]
    · exact nm_r (nI_1 _) i
    · simp only [pd_ma, decide_eq_true_eq]
      simp only [pd_p]
      constructor
      · intro y
        by_cases w : a = j
        · exact Or.inl ⟨w, y.2.1, by omega⟩
        · exact Or.inr ⟨by omega, y.2⟩
      · intro y
        rcases y with y | y
        · exact ⟨by omega, y.2.1, by omega⟩
        · exact ⟨by omega, y.2⟩
/-! a resolution: the victims w 0 .. w (c - 1), one after another -/
def pe_at (T L : Nat) (q : Nat → Nat → Nat) (m : Nat → Nat → Int32) (w : Nat → Nat) : Nat → (Nat → Nat → Nat) × (Nat → Nat → Int32)
  | 0 => (q, m)
  | k + 1 => pd_end T L (w k) (pe_at T L q m w k).1 (pe_at T L q m w k).2
theorem pe_at_congr {T L : Nat} {q : Nat → Nat → Nat} {m : Nat → Nat → Int32} {w w' : Nat → Nat} : ∀ k, (∀ j, j < k → w' j = w j) → pe_at T L q m w' k = pe_at T L q m w k := by
  intro k
  induction k with
  | zero => intro _; rfl
  | succ k ih =>
    intro h
    show pd_end T L (w' k) (pe_at T L q m w' k).1 (pe_at T L q m w' k).2 = pd_end T L (w k) (pe_at T L q m w k).1 (pe_at T L q m w k).2
    rw [ih (fun j hj => h j (by omega)), h k (by omega)]
noncomputable def pe_low (T L : Nat) (pr : Nat → Int32) (q : Nat → Nat → Nat) (m : Nat → Nat → Int32) (w : Nat → Nat) (k : Nat) : Int32 := pd_low (pd_C T L (pe_at T L q m w k).1 (pe_at T L q m w k).2) pr T
def pe_run (T L : Nat) (pr : Nat → Int32) (q : Nat → Nat → Nat) (m : Nat → Nat → Int32) (w : Nat → Nat) (c : Nat) : Prop :=
  c ≤ T ∧ (∀ k, k < c → w k < T ∧ pe_low T L pr q m w k = nI (w k)) ∧ pe_low T L pr q m w c = -1
theorem xr_res {T L S : Nat} {pr : Nat → Int32} {q : Nat → Nat → Nat} {m : Nat → Nat → Int32} {w : Nat → Nat} {c : Nat} {post : St2 → Prop} (hT2 : 2 ≤ T) (hT : T ≤ 8) (hL : L ≤ 12) (hr : pe_run T L pr q m w c)
    (K : ∀ s' st' hd' vl' : Nat → Int32, pd_R 8 T L (pe_at T L q m w c).1 (pe_at T L q m w c).2 s' st' hd' → (∀ j, j < c → vl' j = nI (w j)) → post (nI T, nI L, nI S, nI c, st', pr, hd', pd_xp (pd_p (pe_at T L q m w c).1), pd_x ((pe_at T L q m w c).2), vl')) :
    ∀ (d k : Nat) (s st hd vl : Nat → Int32), k + d = T → k ≤ c → pd_R 8 T L (pe_at T L q m w k).1 (pe_at T L q m w k).2 s st hd → (∀ j, j < k → vl j = nI (w j)) →
      wX_resolve_7 post (d + 1) (nI k) (nI T) (nI L) (nI S) (nI k) st pr hd (pd_xp (pd_p (pe_at T L q m w k).1)) (pd_x ((pe_at T L q m w k).2)) vl := by
  obtain ⟨hcT, hw, hz⟩ := hr
  intro d
  induction d with
  | zero =>
    intro k s st hd vl hk hkc R hv
    have e : k = c := by omega
    subst e
    exact br_t (nI_le (by omega) (by omega)) (K s st hd vl R hv)
  | succ d ih =>
    intro k s st hd vl hk hkc R hv
    refine br_f (nI_ge (by omega) (by omega)) (xw_low hT2 hT hL R ?_)
    by_cases e : k = c
    · subst e
      exact br_t hz (K s st hd vl R hv)
    · obtain ⟨wT, we⟩ := hw k (by omega)
      have we' : pd_low (pd_C T L (pe_at T L q m w k).1 (pe_at T L q m w k).2) pr T = nI (w k) := we
      rw [we', nI_clamp (n := k) (by omega)]
      refine br_f (pd_m1 _ (by omega)) ⟨vp_in_nI (by omega) (by decide), nm_e (nm_r (nI_1 _) (xw_end hT hL wT (Or.inr rfl) R (fun st' hd' R' => nm_r (nI_1 _) ?_)))⟩
      exact ih (k + 1) _ st' hd' (upd vl k (nI (w k))) (by omega) (by omega) R' (fun j hj => by
        by_cases z : j = k
        · rw [z]; exact pk_us
        · rw [pk_un z]; exact hv j (by omega))
theorem xr_resolve {T L S : Nat} {n : Int32} {pr s st hd vl : Nat → Int32} {q : Nat → Nat → Nat} {m : Nat → Nat → Int32} {w : Nat → Nat} {c : Nat} {post : St2 → Prop} (hT2 : 2 ≤ T) (hT : T ≤ 8) (hL : L ≤ 12) (R : pd_R 8 T L q m s st hd) (hr : pe_run T L pr q m w c)
    (K : ∀ s' st' hd' vl' : Nat → Int32, pd_R 8 T L (pe_at T L q m w c).1 (pe_at T L q m w c).2 s' st' hd' → (∀ j, j < c → vl' j = nI (w j)) → post (nI T, nI L, nI S, nI c, st', pr, hd', pd_xp (pd_p (pe_at T L q m w c).1), pd_x ((pe_at T L q m w c).2), vl')) : wpX_resolve post (nI T, nI L, nI S, n, st, pr, hd, pd_xp (pd_p q), pd_x m, vl) :=
  ⟨T + 1, xr_res (q := q) (m := m) (w := w) hT2 hT hL hr K T 0 s st hd vl (by omega) (Nat.zero_le _) R (fun j hj => by omega)⟩
theorem xr_report {T L S : Nat} {n : Int32} {st pr hd vl : Nat → Int32} {q : Nat → Nat → Nat} {m : Nat → Nat → Int32} {post : Int32 → St2 → Prop} {x c : Nat} {w : Nat → Nat} {s : Nat → Int32} (hT2 : 2 ≤ T) (hT : T ≤ 8) (hL : L ≤ 12) (hS1 : 1 ≤ S) (hS : S ≤ 4) (hx : x < S) (R : pd_R 8 T L q m s st hd) (hr : pe_run T L pr q (pd_mk (pd_ms S x T L q) m) w c)
    (K : ∀ s' st' hd' vl' : Nat → Int32, pd_R 8 T L (pe_at T L q (pd_mk (pd_ms S x T L q) m) w c).1 (pe_at T L q (pd_mk (pd_ms S x T L q) m) w c).2 s' st' hd' → (∀ j, j < c → vl' j = nI (w j)) → post (nI c) (nI T, nI L, nI S, nI c, st', pr, hd', pd_xp (pd_p (pe_at T L q (pd_mk (pd_ms S x T L q) m) w c).1), pd_x ((pe_at T L q (pd_mk (pd_ms S x T L q) m) w c).2), vl')) : wpX_report post (nI T, nI L, nI S, n, st, pr, hd, pd_xp (pd_p q), pd_x m, vl) (nI x) := by
  have R1 : pd_R 8 T L q (pd_mk (pd_ms S x T L q) m) s st hd := pd_R_mk R (fun a b h => (of_decide_eq_true h).2.2.2)
  have i := xw_rp_l (n := n) (pr := pr) (vl := vl) (m := m) (st := st) (hd := hd) (post := post) hT hL hS1 hS hx R.1.2.2.2 (xr_resolve hT2 hT hL R1 hr (fun s' st' hd' vl' R' hv => K s' st' hd' vl' R' hv)) L 0 (by omega)
  rw [pd_ms_0] at i
  exact br_f (nI_pos (by omega)) (br_t (nI_lt hx (by omega)) ⟨L + 1, i⟩)
theorem xr_report_f {T L S : Nat} {n : Int32} {st pr hd vl : Nat → Int32} {p : Nat → Nat → Nat} {m : Nat → Nat → Int32} {post : Int32 → St2 → Prop} {x : Int32} (h : nI S ≤ x) (hS : S ≤ 4) (hp : post (-1) (nI T, nI L, nI S, n, st, pr, hd, pd_xp p, pd_x m, vl)) : wpX_report post (nI T, nI L, nI S, n, st, pr, hd, pd_xp p, pd_x m, vl) x := by
  have h0 : ¬ x < 0 := Int32.not_lt.mpr (Int32.le_trans (nI_pos' (by omega)) h)
  exact br_f h0 (br_f (Int32.not_lt.mpr h) hp)
theorem xr_settle {T L S : Nat} {n : Int32} {st pr hd vl : Nat → Int32} {q : Nat → Nat → Nat} {m : Nat → Nat → Int32} {post : Int32 → St2 → Prop} {c : Nat} {w : Nat → Nat} {s : Nat → Int32} (hT2 : 2 ≤ T) (hT : T ≤ 8) (hL : L ≤ 12) (R : pd_R 8 T L q m s st hd) (hr : pe_run T L pr q (pd_mk (pd_ma T L q) m) w c)
    (K : ∀ s' st' hd' vl' : Nat → Int32, pd_R 8 T L (pe_at T L q (pd_mk (pd_ma T L q) m) w c).1 (pe_at T L q (pd_mk (pd_ma T L q) m) w c).2 s' st' hd' → (∀ j, j < c → vl' j = nI (w j)) → post (nI c) (nI T, nI L, nI S, nI c, st', pr, hd', pd_xp (pd_p (pe_at T L q (pd_mk (pd_ma T L q) m) w c).1), pd_x ((pe_at T L q (pd_mk (pd_ma T L q) m) w c).2), vl')) : wpX_settle post (nI T, nI L, nI S, n, st, pr, hd, pd_xp (pd_p q), pd_x m, vl) := by
  have R1 : pd_R 8 T L q (pd_mk (pd_ma T L q) m) s st hd := pd_R_mk R (fun a b h => (of_decide_eq_true h).2.2)
  have i := xw_st_l (S := S) (n := n) (pr := pr) (vl := vl) (m := m) (st := st) (hd := hd) (post := post) hT hL R.1.2.2.2 (xr_resolve hT2 hT hL R1 hr (fun s' st' hd' vl' R' hv => K s' st' hd' vl' R' hv)) L 0 (by omega)
  rw [pd_ma_0] at i
  exact ⟨L + 1, i⟩
/-! the law's picks give such a run -/
def pe_pk (T L : Nat) (pr : Nat → Int32) (q : Nat → Nat → Nat) (m : Nat → Nat → Int32) (s : Nat → Int32) (w : Nat → Nat) (c : Nat) (K : Nat → Prop) : Prop :=
  (∀ k, k < c → w k < T ∧ pe_low T L pr q m w k = nI (w k)) ∧
  (∀ x, K x → ¬ pe_C (pd_E T L (pe_at T L q m w c).1 (pe_at T L q m w c).2) x) ∧
  (∀ a b, pd_E T L (pe_at T L q m w c).1 (pe_at T L q m w c).2 a b ↔ (¬ (∃ k, k < c ∧ w k = a) ∧ ¬ (∃ k, k < c ∧ w k = b) ∧ pd_E T L q m a b)) ∧
  (∀ k, k < c → K (w k)) ∧ pd_G T L (pe_at T L q m w c).1 (pe_at T L q m w c).2 s
theorem pe_E_irr {T L : Nat} {q : Nat → Nat → Nat} {m : Nat → Nat → Int32} (x : Nat) : ¬ pd_E T L q m x x := fun ⟨_, _, _, _, _, _, h⟩ => absurd h (Nat.lt_irrefl _)
theorem pe_pk_0 {T L : Nat} {pr : Nat → Int32} {q : Nat → Nat → Nat} {m : Nat → Nat → Int32} {s : Nat → Int32} {w : Nat → Nat} {K : Nat → Prop} (h : pd_G T L q m s) (hK : ∀ x, K x → T ≤ x) : pe_pk T L pr q m s w 0 K :=
  ⟨fun k hk => by omega, fun x hx c => by have := hK x hx; have := (pd_RC_live h c).2.2.2; omega, fun a b => ⟨fun z => ⟨fun ⟨k, hk, _⟩ => by omega, fun ⟨k, hk, _⟩ => by omega, z⟩, fun z => z.2.2⟩, fun k hk => by omega, h⟩
theorem pe_pk_D {T L : Nat} {pr : Nat → Int32} {q : Nat → Nat → Nat} {m : Nat → Nat → Int32} {s : Nat → Int32} {w : Nat → Nat} {c v : Nat} {K P : Nat → Prop} (h : pe_pk T L pr q m s w c K) (nv : ¬ K v) (hP : ∀ x, P x ↔ (¬ K x ∧ x ≠ v)) :
    pe_D (pd_E T L q m) P v ↔ pe_C (pd_E T L (pe_at T L q m w c).1 (pe_at T L q m w c).2) v :=
  pe_step (K := K) (V := fun x => ∃ k, k < c ∧ w k = x) pe_E_irr h.2.2.1 (fun x ⟨k, hk, e⟩ => by rw [← e]; exact h.2.2.2.1 k hk) h.2.1 nv (fun x px => ((hP x).mp px).1) (fun px => ((hP v).mp px).2 rfl)
    (fun x _ nk => by
      by_cases z : x = v
      · exact Or.inl z
      · exact Or.inr ((hP x).mpr ⟨nk, z⟩))
theorem pe_pk_no {T L : Nat} {pr : Nat → Int32} {q : Nat → Nat → Nat} {m : Nat → Nat → Int32} {s : Nat → Int32} {w : Nat → Nat} {c v : Nat} {K K' : Nat → Prop} (h : pe_pk T L pr q m s w c K) (hK : ∀ x, K' x → K x ∨ x = v) (hK2 : ∀ x, K x → K' x)
    (n : ¬ pe_C (pd_E T L (pe_at T L q m w c).1 (pe_at T L q m w c).2) v) : pe_pk T L pr q m s w c K' :=
  ⟨h.1, fun x hx => (hK x hx).elim (h.2.1 x) (fun e => by rw [e]; exact n), h.2.2.1, fun k hk => hK2 _ (h.2.2.2.1 k hk), h.2.2.2.2⟩
theorem pe_pk_yes {T L : Nat} {pr : Nat → Int32} {q : Nat → Nat → Nat} {m : Nat → Nat → Int32} {s : Nat → Int32} {w w' : Nat → Nat} {c v : Nat} {K K' : Nat → Prop} (hT : T ≤ 8) (h : pe_pk T L pr q m s w c K) (hv : v < T) (hK : ∀ x, K' x → K x ∨ x = v) (hK2 : ∀ x, K x → K' x) (hKv : K' v)
    (hw : ∀ k, k < c → w' k = w k) (hw' : w' c = v)
    (y : pe_C (pd_E T L (pe_at T L q m w c).1 (pe_at T L q m w c).2) v) (hl : ∀ x, x < T → ¬ K x → x ≠ v → s x = 1 → s v = 1 → pd_lt pr v x) : pe_pk T L pr q m s w' (c + 1) K' := by
  obtain ⟨h1, h2, h3, h4, h5⟩ := h
  have ec : pe_at T L q m w' c = pe_at T L q m w c := pe_at_congr c hw
  have e1 : pe_at T L q m w' (c + 1) = pd_end T L v (pe_at T L q m w c).1 (pe_at T L q m w c).2 := by
    show pd_end T L (w' c) (pe_at T L q m w' c).1 (pe_at T L q m w' c).2 = _
    rw [ec, hw']
  have hE := pe_end h5 hv
  have hlow : pd_low (pd_C T L (pe_at T L q m w c).1 (pe_at T L q m w c).2) pr T = nI v := by
    refine pe_low_eq hT hv y (fun x hx cx => ?_)
    by_cases z : x = v
    · exact Or.inl z
    · exact Or.inr (hl x hx (fun k => h2 x k cx) z (pd_RC_live h5 cx).1 (pd_RC_live h5 y).1)
  refine ⟨fun k hk => ?_, fun x hx cx => ?_, fun a b => ?_, fun k hk => ?_, ?_⟩
  · by_cases z : k = c
    · subst z
      refine ⟨by rw [hw']; exact hv, ?_⟩
      unfold pe_low
      rw [ec, hw']
      exact hlow
    · have := h1 k (by omega)
      unfold pe_low
      rw [pe_at_congr k (fun j hj => hw j (by omega)), hw k (by omega)]
      exact this
  · rw [e1] at cx
    rcases hK x hx with z | z
    · exact h2 x z (pe_mono (fun a b w _ => ⟨((hE a b).mp w).2.2, trivial⟩) cx)
    · rw [z] at cx
      exact cx (fun _ => False) ⟨fun x hx _ => ((hE v x).mp hx).1 rfl, fun _ _ w _ _ => w⟩
  · rw [e1, hE a b, h3 a b]
    constructor
    · intro ⟨na, nb, va, vb, e⟩
      refine ⟨fun ⟨k, hk, ek⟩ => ?_, fun ⟨k, hk, ek⟩ => ?_, e⟩
      · by_cases z : k = c
        · rw [z, hw'] at ek; exact na ek.symm
        · rw [hw k (by omega)] at ek; exact va ⟨k, by omega, ek⟩
      · by_cases z : k = c
        · rw [z, hw'] at ek; exact nb ek.symm
        · rw [hw k (by omega)] at ek; exact vb ⟨k, by omega, ek⟩
    · intro ⟨va, vb, e⟩
      exact ⟨fun z => va ⟨c, by omega, by rw [hw', z]⟩, fun z => vb ⟨c, by omega, by rw [hw', z]⟩, fun ⟨k, hk, ek⟩ => va ⟨k, by omega, by rw [hw k hk]; exact ek⟩, fun ⟨k, hk, ek⟩ => vb ⟨k, by omega, by rw [hw k hk]; exact ek⟩, e⟩
  · by_cases z : k = c
    · rw [z, hw']; exact hKv
    · rw [hw k (by omega)]; exact hK2 _ (h4 k (by omega))
  · rw [e1]
    exact (pe_it (c := pd_c2) rfl (pe_it (c := pd_c1) rfl h5 hv L (Nat.le_refl L)).1 hv L (Nat.le_refl L)).1
theorem pe_pk_end {T L : Nat} {pr : Nat → Int32} {q : Nat → Nat → Nat} {m : Nat → Nat → Int32} {s : Nat → Int32} {w : Nat → Nat} {c : Nat} {K : Nat → Prop} (hT : T ≤ 8) (h : pe_pk T L pr q m s w c K) (hc : c ≤ T) (hK : ∀ x, x < T → K x) : pe_run T L pr q m w c := by
  refine ⟨hc, h.1, ?_⟩
  rcases pd_low_is (pd_C T L (pe_at T L q m w c).1 (pe_at T L q m w c).2) pr T hT with y | ⟨a, ha, _, ca⟩
  · exact y.1
  · exact absurd ca (h.2.1 a (hK a ha))
theorem pe_run_acy {T L : Nat} {pr : Nat → Int32} {q : Nat → Nat → Nat} {m : Nat → Nat → Int32} {w : Nat → Nat} {c : Nat} (hT : T ≤ 8) (h : pe_run T L pr q m w c) (v : Nat) (hv : v < T) : ¬ pd_C T L (pe_at T L q m w c).1 (pe_at T L q m w c).2 v := by
  rcases pd_low_is (pd_C T L (pe_at T L q m w c).1 (pe_at T L q m w c).2) pr T hT with y | ⟨a, ha, e, _⟩
  · exact y.2 v hv
  · exact absurd (e.symm.trans h.2.2) (pd_m1 a (by omega))
/-! after settle every entry is marked -/
def pe_all1 (T L : Nat) (q : Nat → Nat → Nat) (m : Nat → Nat → Int32) : Prop := ∀ l t, l < L → t < T → 2 ≤ q l t → m l t ≠ 0
theorem pe_all_rem {T L : Nat} {q : Nat → Nat → Nat} {m : Nat → Nat → Int32} {l t : Nat} (h : pe_all1 T L q m) : pe_all1 T L (pd_rem T q l t) (pd_mrem T q m l t) := by
  intro a b ha hb e
  by_cases z : a = l
  · subst z
    by_cases y : b = t
    · rw [y, pd_rem_t] at e; omega
    · by_cases g : q a t < q a b
      · rw [pd_rem_gt _ _ _ _ hb g] at e
        rw [show pd_mrem T q m a t a b = m a b from if_neg (fun c => c.2.elim y (fun w => by omega))]
        exact h a b ha hb (by omega)
      · rw [pd_rem_le _ _ _ _ y (by omega)] at e
        rw [show pd_mrem T q m a t a b = m a b from if_neg (fun c => c.2.elim y (fun w => g w.2.1))]
        exact h a b ha hb e
  · rw [pd_rem_ne _ _ _ _ _ z] at e
    rw [show pd_mrem T q m l t a b = m a b from if_neg (fun c => z c.1)]
    exact h a b ha hb e
theorem pe_all_it {c : Nat → Bool} {T L : Nat} {q : Nat → Nat → Nat} {m : Nat → Nat → Int32} {t : Nat} (h : pe_all1 T L q m) : ∀ j, pe_all1 T L (pd_it c T t q m j).1 (pd_it c T t q m j).2 := by
  intro j
  induction j with
  | zero => exact h
  | succ j ih =>
    by_cases z : c ((pd_it c T t q m j).1 j t) = true
    · rw [pd_it_t z]; exact pe_all_rem ih
    · rw [pd_it_f z]; exact ih
theorem pe_all_at {T L : Nat} {q : Nat → Nat → Nat} {m : Nat → Nat → Int32} {w : Nat → Nat} (h : pe_all1 T L q m) : ∀ k, pe_all1 T L (pe_at T L q m w k).1 (pe_at T L q m w k).2 := by
  intro k
  induction k with
  | zero => exact h
  | succ k ih => exact pe_all_it (pe_all_it ih L) L
theorem pe_all_E {T L : Nat} {q : Nat → Nat → Nat} {m : Nat → Nat → Int32} (h : pe_all1 T L q m) {a b : Nat} (e : pd_E1 T L q a b) : pd_E T L q m a b := by
  obtain ⟨ha, hb, l, hl, e1, e2⟩ := e
  exact ⟨ha, hb, l, hl, h l a hl ha (by omega), e1, e2⟩
