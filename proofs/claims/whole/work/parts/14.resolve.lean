/-! the resolution, both sides step by step -/
theorem pw_res {T L S : Nat} {pr : Nat → Int32} (hT2 : 2 ≤ T) (hT : T ≤ 8) (hL : L ≤ 12) :
    ∀ (d r : Nat) (q : Nat → Nat → Nat) (m : Nat → Nat → Int32) (s st hd vl : Nat → Int32) (post : SX → Prop), r + d = T → pd_R 8 T L q m s st hd → r ≤ pd_dead T s →
      (∀ (q' : Nat → Nat → Nat) (m' : Nat → Nat → Int32) (s' st' hd' vl' : Nat → Int32) (k : Nat), pd_R 8 T L q' m' s' st' hd' → k ≤ 8 →
        (∀ (rc : Nat → Int32) (pY : Int32 → SY → Prop), (∀ rc' : Nat → Int32, pY (nI k) (nI T, nI L, nI S, nI k, pd_yv (q'), pd_y (m'), s', pr, vl', rc')) → wY_resolve_7 pY (9 - r) (nI r) (nI T) (nI L) (nI S) (nI r) (pd_yv q) (pd_y m) s pr vl rc) →
        post (nI T, nI L, nI S, nI k, st', pr, hd', pd_xp (pd_p q'), pd_x (m'), vl')) →
      wX_resolve_7 post (d + 1) (nI r) (nI T) (nI L) (nI S) (nI r) st pr hd (pd_xp (pd_p q)) (pd_x m) vl := by
  intro d
  induction d with
  | zero =>
    intro r q m s st hd vl post hr R hdead hp
    have e : r = T := by omega
    subst e
    refine br_t (nI_le (Nat.le_refl _) (by omega)) (hp q m s st hd vl r R hT (fun rc pY hY => ?_))
    by_cases z : r = 8
    · rw [show 9 - r = 0 + 1 by omega]
      exact br_t (nI_le (a := 8) (by omega) (by omega)) (hY rc)
    · rw [show 9 - r = (9 - (r + 1)) + 1 by omega]
      have hl := pd_low_dead (pr := pr) R.1 hT hdead
      exact br_f (nI_ge (b := 8) (by omega) (by decide)) ⟨r + 1, yw_low_l hT hL R.1.2.2.2 (by omega) (fun _ rc' => hY rc') (fun v hv e => by rw [hl] at e; exact absurd e.symm (pd_m1 v (by omega))) r 0 rc (by omega)⟩
  | succ d ih =>
    intro r q m s st hd vl post hr R hdead hp
    have hrT : r < T := by omega
    refine br_f (nI_ge (by omega) (by omega)) (xw_low hT2 hT hL R ?_)
    rcases pd_low_is (pd_C T L q m) pr T hT with y | ⟨v, hv, e, hC⟩
    · refine br_t y.1 (hp q m s st hd vl r R (by omega) (fun rc pY hY => ?_))
      rw [show 9 - r = (9 - (r + 1)) + 1 by omega]
      exact br_f (nI_ge (b := 8) (by omega) (by decide)) ⟨T + 1, yw_low_l hT hL R.1.2.2.2 (by omega) (fun _ rc' => hY rc') (fun v hv e => by rw [y.1] at e; exact absurd e.symm (pd_m1 v (by omega))) T 0 rc (by omega)⟩
    · have hs : s v = 1 := (pd_RC_live R.1 hC).1
      have e0 := e
      rw [e, nI_clamp (n := r) (by omega)]
      refine br_f (pd_m1 v (by omega)) ⟨vp_in_nI (by omega) (by decide), nm_e (nm_r (nI_1 _) (xw_end hT hL hv (Or.inr rfl) R (fun st' hd' R' => nm_r (nI_1 _) ?_)))⟩
      refine ih (r + 1) _ _ _ st' hd' _ post (by omega) R' (by rw [pd_dead_s hv hs]; omega) (fun q2 m2 s2 st2 hd2 vl2 k R2 hk HY => hp q2 m2 s2 st2 hd2 vl2 k R2 hk (fun rc pY hY => ?_))
      rw [show 9 - r = (9 - (r + 1)) + 1 by omega]
      refine br_f (nI_ge (b := 8) (by omega) (by decide)) ⟨T + 1, yw_low_l hT hL R.1.2.2.2 (by omega) (fun z => by rw [e0] at z; exact absurd z (pd_m1 v (by omega))) (fun w hw ew rc' => ?_) T 0 rc (by omega)⟩
      rw [e0, nI_eq (by omega) (by omega)] at ew
      subst ew
      exact HY rc' pY hY
theorem pw_resolve {T L S : Nat} {n n' : Int32} {pr s st hd vl : Nat → Int32} {q : Nat → Nat → Nat} {m : Nat → Nat → Int32} {post : SX → Prop} (hT2 : 2 ≤ T) (hT : T ≤ 8) (hL : L ≤ 12) (R : pd_R 8 T L q m s st hd)
    (hp : ∀ (q' : Nat → Nat → Nat) (m' : Nat → Nat → Int32) (s' st' hd' vl' : Nat → Int32) (k : Nat), pd_R 8 T L q' m' s' st' hd' → k ≤ 8 →
        (∀ (rc : Nat → Int32) (pY : Int32 → SY → Prop), (∀ rc' : Nat → Int32, pY (nI k) (nI T, nI L, nI S, nI k, pd_yv (q'), pd_y (m'), s', pr, vl', rc')) → wpY_resolve pY (nI T, nI L, nI S, n', pd_yv q, pd_y m, s, pr, vl, rc)) →
        post (nI T, nI L, nI S, nI k, st', pr, hd', pd_xp (pd_p q'), pd_x (m'), vl')) :
    wpX_resolve post (nI T, nI L, nI S, n, st, pr, hd, pd_xp (pd_p q), pd_x m, vl) :=
  ⟨T + 1, pw_res (S := S) hT2 hT hL T 0 q m s st hd vl post (by omega) R (Nat.zero_le _) (fun q' m' s' st' hd' vl' k R' hk HY => hp q' m' s' st' hd' vl' k R' hk (fun rc pY hY => ⟨9, HY rc pY hY⟩))⟩
/-! the marks of a site, of all sites -/
theorem pd_mk_mk {p1 p2 p3 : Nat → Nat → Bool} {m : Nat → Nat → Int32} (h : ∀ a b, p3 a b = true ↔ p1 a b = true ∨ p2 a b = true) : pd_mk p1 (pd_mk p2 m) = pd_mk p3 m := by
  funext a b
  exact pd_if2 (h a b).symm
theorem pd_R_mk {x T L : Nat} {q : Nat → Nat → Nat} {m : Nat → Nat → Int32} {s st hd : Nat → Int32} {p : Nat → Nat → Bool} (h : pd_R x T L q m s st hd) (hm : ∀ a b, p a b = true → 2 ≤ q a b) : pd_R x T L q (pd_mk p m) s st hd :=
  pd_R_mark h (fun l t c => (pd_mk_m c).elim Or.inl (fun y => Or.inr (hm l t y)))
def pd_ms (S x T j : Nat) (q : Nat → Nat → Nat) : Nat → Nat → Bool := fun a b => decide (a < j ∧ a % S = x ∧ b < T ∧ 2 ≤ q a b)
def pd_ma (T j : Nat) (q : Nat → Nat → Nat) : Nat → Nat → Bool := fun a b => decide (a < j ∧ b < T ∧ 2 ≤ q a b)
theorem pd_ms_0 {S x T : Nat} {q : Nat → Nat → Nat} {m : Nat → Nat → Int32} : pd_mk (pd_ms S x T 0 q) m = m := by
  rw [← pd_mk_c (p := fun _ _ => false) (fun a b => by simp [pd_ms]), pd_mk_0]
theorem pd_ma_0 {T : Nat} {q : Nat → Nat → Nat} {m : Nat → Nat → Int32} : pd_mk (pd_ma T 0 q) m = m := by
  rw [← pd_mk_c (p := fun _ _ => false) (fun a b => by simp [pd_ma]), pd_mk_0]
theorem xw_rp_l {T L S : Nat} {n : Int32} {st pr hd vl : Nat → Int32} {q : Nat → Nat → Nat} {m : Nat → Nat → Int32} {post : Int32 → SX → Prop} {x : Nat} (hT : T ≤ 8) (hL : L ≤ 12) (hS1 : 1 ≤ S) (hS : S ≤ 4) (hx : x < S) (hb : ∀ a b, q a b < 16)
    (K : wpX_resolve (fun u => match u with | (f1, f2, f3, f4, a1, a2, a3, a4, a5, a6) => post f4 (f1, f2, f3, f4, a1, a2, a3, a4, a5, a6)) (nI T, nI L, nI S, n, st, pr, hd, pd_xp (pd_p q), pd_x (pd_mk (pd_ms S x T L q) m), vl)) :
    ∀ d j, j + d = L → wX_report_16 post (nI x) (d + 1) (nI j) (nI T) (nI L) (nI S) n st pr hd (pd_xp (pd_p q)) (pd_x (pd_mk (pd_ms S x T j q) m)) vl := by
  intro d
  induction d with
  | zero =>
    intro j hj
    have e : j = L := by omega
    subst e
    exact br_t (nI_le (Nat.le_refl _) (by omega)) K
  | succ d ih =>
    intro j hj
    have i := ih (j + 1) (by omega)
    refine br_f (nI_ge (by omega) (by omega)) ⟨nI_ne0 (by omega) (by omega), ?_⟩
    rw [pk_rem (by omega) (by omega) (by omega)]
    have hm := Nat.mod_lt j (show 0 < S by omega)
    by_cases z : j % S = x
    · refine br_t (by rw [z]) (xw_mark hT (pd_p_lt hb) (by omega) ?_)
      rw [pd_mk_mk (p3 := pd_ms S x T (j + 1) q) (fun a b => ?_)]
      · exact nm_r (nI_1 _) i
      · simp only [pd_ms, decide_eq_true_eq]
        simp only [pd_p]
        constructor
        · intro y
          by_cases w : a = j
          · exact Or.inl ⟨w, y.2.2.1, by omega⟩
          · exact Or.inr ⟨by omega, y.2⟩
        · intro y
          rcases y with y | y
          · exact ⟨by omega, by rw [y.1]; exact z, y.2.1, by omega⟩
          · exact ⟨by omega, y.2⟩
    · rw [← pd_mk_c (p := pd_ms S x T j q) (fun a b => ?_)] at i
      · exact br_f (fun y => z ((nI_eq (by omega) (by omega)).mp y)) (nm_r (nI_1 _) i)
      · simp only [pd_ms, decide_eq_true_eq]
        constructor
        · intro y
          have : a ≠ j := fun w => z (by rw [← w]; exact y.2.1)
          exact ⟨by omega, y.2⟩
        · intro y
          exact ⟨by omega, y.2⟩
theorem xw_st_l {T L S : Nat} {n : Int32} {st pr hd vl : Nat → Int32} {q : Nat → Nat → Nat} {m : Nat → Nat → Int32} {post : Int32 → SX → Prop} (hT : T ≤ 8) (hL : L ≤ 12) (hb : ∀ a b, q a b < 16)
    (K : wpX_resolve (fun u => match u with | (f1, f2, f3, f4, a1, a2, a3, a4, a5, a6) => post f4 (f1, f2, f3, f4, a1, a2, a3, a4, a5, a6)) (nI T, nI L, nI S, n, st, pr, hd, pd_xp (pd_p q), pd_x (pd_mk (pd_ma T L q) m), vl)) :
    ∀ d j, j + d = L → wX_settle_2 post (d + 1) (nI j) (nI T) (nI L) (nI S) n st pr hd (pd_xp (pd_p q)) (pd_x (pd_mk (pd_ma T j q) m)) vl := by
  intro d
  induction d with
  | zero =>
    intro j hj
    have e : j = L := by omega
    subst e
    exact br_t (nI_le (Nat.le_refl _) (by omega)) K
  | succ d ih =>
    intro j hj
    have i := ih (j + 1) (by omega)
    refine br_f (nI_ge (by omega) (by omega)) (xw_mark hT (pd_p_lt hb) (by omega) ?_)
    rw [pd_mk_mk (p3 := pd_ma T (j + 1) q) (fun a b => ?_)]
    · exact nm_r (nI_1 _) i
    · simp only [pd_ma, decide_eq_true_eq]
      simp only [pd_p]
      constructor
      · intro y
        by_cases w : a = j
        · exact Or.inl ⟨w, y.2.1, by omega⟩
        · exact Or.inr ⟨by omega, y.2⟩
      · intro y
        rcases y with y | y
        · exact ⟨by omega, y.2.1, by omega⟩
        · exact ⟨by omega, y.2⟩
/-! the same on the reference's side -/
def pd_mi (S x T j i : Nat) (q : Nat → Nat → Nat) : Nat → Nat → Bool := fun a b => decide ((a < j ∨ (a = j ∧ b < i)) ∧ a % S = x ∧ b < T ∧ 2 ≤ q a b)
theorem yw_ms_in {T L S : Nat} {n : Int32} {s pr vl rc : Nat → Int32} {q : Nat → Nat → Nat} {m : Nat → Nat → Int32} {post : SY → Prop} {J2 : Int32 → (Nat → Int32) → (Nat → Int32) → (Nat → Int32) → (Nat → Int32) → (Nat → Int32) → (Nat → Int32) → Prop} {x j : Nat} (hT : T ≤ 8) (hS1 : 1 ≤ S) (hS : S ≤ 4) (hx : x < S) (hb : ∀ a b, q a b < 16) (hj : j < 12)
    (hJ : J2 (nI (j + 1)) (pd_yv q) (pd_y (pd_mk (pd_ms S x T (j + 1) q) m)) s pr vl rc) :
    ∀ d i, i + d = T → wY_markSite_12 post J2 (nI x) (nI j) (nI T) (nI L) (nI S) n (d + 1) (nI i) (pd_yv q) (pd_y (pd_mk (pd_mi S x T j i q) m)) s pr vl rc := by
  intro d
  induction d with
  | zero =>
    intro i hi
    have e : i = T := by omega
    subst e
    rw [pd_mk_c (p' := pd_ms S x i (j + 1) q) (fun a b => ?_)]
    · exact br_t (nI_le (Nat.le_refl _) (by omega)) (nm_r (nI_1 _) hJ)
    · simp only [pd_ms, pd_mi, decide_eq_true_eq]
      constructor
      · intro y
        exact ⟨by omega, y.2⟩
      · intro y
        exact ⟨by omega, y.2⟩
  | succ d ih =>
    intro i hi
    have k := ih (i + 1) (by omega)
    have hm := Nat.mod_lt j (show 0 < S by omega)
    have same : ¬ (j % S = x ∧ 2 ≤ q j i) → pd_mk (pd_mi S x T j i q) m = pd_mk (pd_mi S x T j (i + 1) q) m := fun c =>
      pd_mk_c (fun a b => by
        simp only [pd_mi, decide_eq_true_eq]
        constructor
        · intro y
          refine ⟨?_, y.2⟩
          by_cases w : a = j ∧ b = i
          · exact absurd ⟨by rw [← w.1]; exact y.2.1, by rw [← w.1, ← w.2]; exact y.2.2.2⟩ c
          · omega
        · intro y
          exact ⟨by omega, y.2⟩)
    refine br_f (nI_ge (by omega) (by omega)) ⟨nI_ne0 (by omega) (by omega), ?_⟩
    rw [pk_rem (by omega) (by omega) (by omega)]
    by_cases z : j % S = x
    · refine br_t (by rw [z]) ?_
      rw [pd_ix12, nI_clamp (n := i * 12 + j) (by omega), pd_yv_at q hj]
      have hi : vp_in (nI (i * 12 + j)) 96 := vp_in_nI (by omega) (by decide)
      refine ⟨hi, ?_⟩
      by_cases g : 2 ≤ q j i
      · refine br_f (fun y => ((pd_v_le0 _ (hb j i)).mp y) g) ⟨hi, ?_⟩
        rw [pd_b1, pd_y_upd _ hj, pd_mk_s (p' := pd_mi S x T j (i + 1) q) (fun a b => ?_)]
        · exact nm_e (nm_r (nI_1 _) k)
        · simp only [pd_mi, decide_eq_true_eq]
          constructor
          · intro y
            by_cases w : a = j ∧ b = i
            · exact Or.inl w
            · exact Or.inr ⟨by omega, y.2⟩
          · intro y
            rcases y with y | y
            · exact ⟨by omega, by rw [y.1]; exact z, by omega, by rw [y.1, y.2]; exact g⟩
            · exact ⟨by omega, y.2⟩
      · rw [← same (fun y => g y.2)] at k
        exact br_t ((pd_v_le0 _ (hb j i)).mpr g) (nm_r (nI_1 _) k)
    · rw [← same (fun y => z y.1)] at k
      exact br_f (fun y => z ((nI_eq (by omega) (by omega)).mp y)) (nm_r (nI_1 _) k)
theorem yw_ms_out {T L S : Nat} {n : Int32} {s pr vl rc : Nat → Int32} {q : Nat → Nat → Nat} {m : Nat → Nat → Int32} {post : SY → Prop} {x : Nat} (hT : T ≤ 8) (hL : L ≤ 12) (hS1 : 1 ≤ S) (hS : S ≤ 4) (hx : x < S) (hb : ∀ a b, q a b < 16) (K : post (nI T, nI L, nI S, n, pd_yv q, pd_y (pd_mk (pd_ms S x T L q) m), s, pr, vl, rc)) :
    ∀ d j, j + d = L → wY_markSite_2 post (nI x) (nI T) (nI L) (nI S) n (d + 1) (nI j) (pd_yv q) (pd_y (pd_mk (pd_ms S x T j q) m)) s pr vl rc := by
  intro d
  induction d with
  | zero =>
    intro j hj
    have e : j = L := by omega
    subst e
    exact br_t (nI_le (Nat.le_refl _) (by omega)) K
  | succ d ih =>
    intro j hj
    have k := yw_ms_in (post := post) (n := n) (L := L) hT hS1 hS hx hb (by omega) (ih (j + 1) (by omega)) T 0 (by omega)
    rw [pd_mk_c (p := pd_mi S x T j 0 q) (p' := pd_ms S x T j q) (fun a b => by
      simp only [pd_ms, pd_mi, decide_eq_true_eq]
      constructor
      · intro y; exact ⟨by omega, y.2⟩
      · intro y; exact ⟨by omega, y.2⟩)] at k
    exact br_f (nI_ge (by omega) (by omega)) ⟨T + 1, k⟩
theorem yw_ms {T L S : Nat} {n : Int32} {s pr vl rc : Nat → Int32} {q : Nat → Nat → Nat} {m : Nat → Nat → Int32} {post : SY → Prop} {x : Nat} (hT : T ≤ 8) (hL : L ≤ 12) (hS1 : 1 ≤ S) (hS : S ≤ 4) (hx : x < S) (hb : ∀ a b, q a b < 16) (K : post (nI T, nI L, nI S, n, pd_yv q, pd_y (pd_mk (pd_ms S x T L q) m), s, pr, vl, rc)) : wpY_markSite post (nI T, nI L, nI S, n, pd_yv q, pd_y m, s, pr, vl, rc) (nI x) := by
  have k := yw_ms_out hT hL hS1 hS hx hb K L 0 (by omega)
  rw [pd_ms_0] at k
  exact ⟨L + 1, k⟩
def pd_mt (S x T L : Nat) (q : Nat → Nat → Nat) : Nat → Nat → Bool := fun a b => decide (a < L ∧ a % S < x ∧ b < T ∧ 2 ≤ q a b)
theorem yw_st_l {T L S : Nat} {n : Int32} {s pr vl rc : Nat → Int32} {q : Nat → Nat → Nat} {m : Nat → Nat → Int32} {post : Int32 → SY → Prop} (hT : T ≤ 8) (hL : L ≤ 12) (hS1 : 1 ≤ S) (hS : S ≤ 4) (hb : ∀ a b, q a b < 16)
    (K : wpY_resolve (fun r u => match u with | (f1, f2, f3, f4, a1, a2, a3, a4, a5, a6) => post r (f1, f2, f3, f4, a1, a2, a3, a4, a5, a6)) (nI T, nI L, nI S, n, pd_yv q, pd_y (pd_mk (pd_ma T L q) m), s, pr, vl, rc)) :
    ∀ d x, x + d = S → wY_settle_2 post (d + 1) (nI x) (nI T) (nI L) (nI S) n (pd_yv q) (pd_y (pd_mk (pd_mt S x T L q) m)) s pr vl rc := by
  intro d
  induction d with
  | zero =>
    intro x hx
    have e : x = S := by omega
    subst e
    rw [pd_mk_c (p' := pd_ma T L q) (fun a b => ?_)]
    · exact br_t (nI_le (Nat.le_refl _) (by omega)) K
    · simp only [pd_ma, pd_mt, decide_eq_true_eq]
      have hm := Nat.mod_lt a (show 0 < x by omega)
      constructor
      · intro y; exact ⟨y.1, hm, y.2⟩
      · intro y; exact ⟨y.1, y.2.2⟩
  | succ d ih =>
    intro x hx
    have i := ih (x + 1) (by omega)
    refine br_f (nI_ge (by omega) (by omega)) (yw_ms hT hL hS1 hS (by omega) hb ?_)
    rw [pd_mk_mk (p3 := pd_mt S (x + 1) T L q) (fun a b => ?_)]
    · exact nm_r (nI_1 _) i
    · simp only [pd_ms, pd_mt, decide_eq_true_eq]
      constructor
      · intro y
        by_cases w : a % S = x
        · exact Or.inl ⟨y.1, w, y.2.2⟩
        · exact Or.inr ⟨y.1, by omega, y.2.2⟩
      · intro y
        rcases y with y | y
        · exact ⟨y.1, by omega, y.2.2⟩
        · exact ⟨y.1, by omega, y.2.2⟩
theorem pd_mt_0 {S T L : Nat} {q : Nat → Nat → Nat} {m : Nat → Nat → Int32} : pd_mk (pd_mt S 0 T L q) m = m := by
  rw [← pd_mk_c (p := fun _ _ => false) (fun a b => by simp [pd_mt]), pd_mk_0]
