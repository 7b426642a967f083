/-! the law's loop, and the law -/
theorem lm_cn {post : Int32 → Prop} {N k : Nat} {xs : Nat → Int32} (hN : N ≤ 260) (hk : k < 2 ^ 31) (h : ∀ z, z < 2 ^ 31 → post (nI z)) : wpL_cell (fun r => wpL_num post () r) N xs () (nI k) := by
  have hn : ∀ p : Int32, wpL_num post () p := fun p => by
    obtain ⟨j, hj, e⟩ := pk_andE p (m := 2147483647) 31 (by decide)
    show post (p &&& 2147483647)
    rw [e]
    exact h j hj
  by_cases z : N ≤ k
  · exact br_t (nI_le z hk) (hn 0)
  · exact br_f (nI_ge (by omega) (by omega)) ⟨vp_in_nI (by omega) (by omega), hn _⟩
theorem lm_prio {post : Int32 → Prop} {p : Int32} (h : ∀ r, post r) : wpL_prio post () p :=
  ⟨by decide, br_c (fun _ => h _) (fun _ => ⟨by decide, by decide, h _⟩)⟩
theorem lm_2 (T : Nat) : (2 : Int32) * nI T = nI (2 * T) := by
  rw [show (2 : Int32) = nI 2 from rfl, pk_mul]
theorem lm_94 {T L S N o kc ks : Nat} {xs : Nat → Int32} (hN : N ≤ 260) (hT2 : 2 ≤ T) (hT : T ≤ 8) (hL1 : 1 ≤ L) (hL : L ≤ 12) (hS1 : 1 ≤ S) (hS : S ≤ 4) (ho : o ≤ 100) :
    ∀ (d k : Nat) (q : Nat → Nat → Nat) (m : Nat → Nat → Int32) (s st hd pr vl : Nat → Int32) (c : Nat) (x7 : Int64), k + d = 2 * T + o + 2 → pe_I T L q m s st hd vl c x7 →
      wL_law_94 (fun r => r = 1) N xs (nI T) (nI L) (nI S) (nI o) (nI (2 * T + o + 2)) kc ks (d + 1) x7 (nI c) (nI k) (nI T) (nI L) (nI S) (nI c) st pr hd (pd_xp (pd_p q)) (pd_x m) vl := by
  intro d
  induction d with
  | zero =>
    intro k q m s st hd pr vl c x7 hk I
    exact br_t (nI_le (by omega) (by omega)) rfl
  | succ d ih =>
    intro k q m s st hd pr vl c x7 hk I
    have go : ∀ (x11 x13 : Int32) (t : Nat), t < T → (x11 = 0 ∨ x11 = 1 ∨ x11 = 2 ∨ x11 = 3 ∨ x11 = 4 ∨ (x11 = 5 ∧ ∃ x, x13 = nI x ∧ x ≤ S) ∨ x11 = 6) →
        wL_law_436 (fun r => r = 1) N xs (wL_law_94 (fun r => r = 1) N xs (nI T) (nI L) (nI S) (nI o) (nI (2 * T + o + 2)) kc ks (d + 1)) (nI T) (nI L) (nI S) (nI o) (nI (2 * T + o + 2)) x7 (nI c) (nI k) x11 (nI t) x13 kc ks (nI T) (nI L) (nI S) (nI c) st pr hd (pd_xp (pd_p q)) (pd_x m) vl := fun x11 x13 t ht hv =>
      ll_436 hT2 hT hL hS1 hS I ht hv (fun q' m' s' st' hd' pr' vl' c' x7' I' => by
        rw [nI_1]
        exact ih (k + 1) q' m' s' st' hd' pr' vl' c' x7' (by omega) I')
    refine br_f (nI_ge (by omega) (by omega)) ?_
    rw [lm_2 T]
    by_cases a : 2 * T ≤ k
    · refine br_t (nI_le a (by omega)) ?_
      rw [nI_add (2 * T) o]
      by_cases b : 2 * T + o ≤ k
      · refine br_t (nI_le b (by omega)) ?_
        rw [show nI (2 * T + o + 2) - 2 = nI (2 * T + o) from (pk_sub (a := 2 * T + o + 2) (b := 2) (by omega)).trans (congrArg nI (by omega))]
        by_cases e : k = 2 * T + o
        · refine br_t (by rw [e]) (nm_r (show nI S - 1 = nI (S - 1) from pk_sub (b := 1) (by omega)) ?_)
          exact go 5 (nI (S - 1)) 0 (by omega) (Or.inr (Or.inr (Or.inr (Or.inr (Or.inr (Or.inl ⟨rfl, S - 1, rfl, by omega⟩))))))
        · refine br_f (fun z => e ((nI_eq (by omega) (by omega)).mp z)) ?_
          exact go 6 0 0 (by omega) (Or.inr (Or.inr (Or.inr (Or.inr (Or.inr (Or.inr rfl))))))
      · refine br_f (nI_ge (by omega) (by omega)) ?_
        have e14 : ((3 : Int32) + nI T) + (3 * (nI k - nI (2 * T))) = nI (3 + T + 3 * (k - 2 * T)) := by
          rw [pk_sub a, show (3 : Int32) = nI 3 from rfl, nI_add, pk_mul, nI_add]
        refine nm_r e14 ?_
        rw [nI_1, show nI (3 + T + 3 * (k - 2 * T)) + 2 = nI (3 + T + 3 * (k - 2 * T) + 2) from nI_add _ 2]
        refine lm_cn hN (by omega) (fun z1 h1 => ⟨by decide, nm_r (pk_rem (d := 16) h1 (by omega) (by omega)) ?_⟩)
        refine lm_cn hN (by omega) (fun z2 h2 => ⟨nI_ne0 (by omega) (by omega), nm_r (pk_rem h2 (by omega) (by omega)) ?_⟩)
        have ht : z2 % T < T := Nat.mod_lt _ (by omega)
        refine lm_cn hN (by omega) (fun z3 h3 => ?_)
        have k5 : wL_law_242 (fun r => r = 1) N xs (wL_law_94 (fun r => r = 1) N xs (nI T) (nI L) (nI S) (nI o) (nI (2 * T + o + 2)) kc ks (d + 1)) (nI T) (nI L) (nI S) (nI o) (nI (2 * T + o + 2)) x7 (nI c) (nI k) (nI (z2 % T)) (nI z3) kc ks (nI T) (nI L) (nI S) (nI c) st pr hd (pd_xp (pd_p q)) (pd_x m) vl := by
          unfold wL_law_242
          rw [nI_1]
          refine ⟨nI_ne0 (by omega) (by omega), nm_r (pk_rem h3 (by omega) (by omega)) ?_⟩
          exact go 5 (nI (z3 % (S + 1))) (z2 % T) ht (Or.inr (Or.inr (Or.inr (Or.inr (Or.inr (Or.inl ⟨rfl, z3 % (S + 1), rfl, by have := Nat.mod_lt z3 (show 0 < S + 1 by omega); omega⟩))))))
        have k01 : ∀ z0 : Int32, wL_law_383 (fun r => r = 1) N xs (wL_law_94 (fun r => r = 1) N xs (nI T) (nI L) (nI S) (nI o) (nI (2 * T + o + 2)) kc ks (d + 1)) (nI T) (nI L) (nI S) (nI o) (nI (2 * T + o + 2)) x7 (nI c) (nI k) (nI (z2 % T)) (nI z3) z0 kc ks (nI T) (nI L) (nI S) (nI c) st pr hd (pd_xp (pd_p q)) (pd_x m) vl := fun z0 => by
          have k1 : ∀ (z0 y : Int32), (y = 0 ∨ y = 1) → wL_law_395 (fun r => r = 1) N xs (wL_law_94 (fun r => r = 1) N xs (nI T) (nI L) (nI S) (nI o) (nI (2 * T + o + 2)) kc ks (d + 1)) (nI T) (nI L) (nI S) (nI o) (nI (2 * T + o + 2)) x7 (nI c) (nI k) (nI (z2 % T)) (nI z3) z0 y kc ks (nI T) (nI L) (nI S) (nI c) st pr hd (pd_xp (pd_p q)) (pd_x m) vl := fun z0 y hy =>
            br_c (fun _ => ⟨nI_ne0 (by omega) (by omega), go y _ (z2 % T) ht (hy.elim Or.inl (fun w => Or.inr (Or.inl w)))⟩) (fun _ => lm_prio (fun r => go y r (z2 % T) ht (hy.elim Or.inl (fun w => Or.inr (Or.inl w)))))
          exact br_c (fun _ => k1 z0 1 (Or.inr rfl)) (fun _ => k1 z0 0 (Or.inl rfl))
        refine br_c (fun _ => k5) (fun _ => br_c (fun _ => k5) (fun _ => br_c (fun _ => ⟨nI_ne0 (by omega) (by omega), nm_e (go 2 _ (z2 % T) ht (Or.inr (Or.inr (Or.inl rfl))))⟩) (fun _ => br_c (fun _ => go 4 0 (z2 % T) ht (Or.inr (Or.inr (Or.inr (Or.inr (Or.inl rfl)))))) (fun _ => br_c (fun _ => go 3 0 (z2 % T) ht (Or.inr (Or.inr (Or.inr (Or.inl rfl))))) (fun _ => br_c (fun _ => go 6 0 (z2 % T) ht (Or.inr (Or.inr (Or.inr (Or.inr (Or.inr (Or.inr rfl))))))) (fun _ => br_c (fun _ => lm_prio (fun r => go 0 r (z2 % T) ht (Or.inl rfl))) (fun _ => br_c (fun _ => ⟨?_, nm_e (go 1 _ (z2 % T) ht (Or.inr (Or.inl rfl)))⟩) (fun _ => xr_state hT ht (br_c (fun _ => k01 1) (fun _ => br_c (fun _ => k01 1) (fun _ => k01 0)))))))))))
        rw [show nI L + 3 = nI (L + 3) from nI_add L 3]
        exact nI_ne0 (by omega) (by omega)
    · refine br_f (nI_ge (by omega) (by omega)) ⟨by decide, nm_r (pk_div (d := 2) (by omega) (by omega) (by omega)) ⟨by decide, nm_r (pk_rem (d := 2) (by omega) (by omega) (by omega)) ?_⟩⟩
      have ht : k / 2 < T := by omega
      by_cases z : k % 2 = 0
      · have z' : nI (k % 2) = 0 := by rw [z]; rfl
        refine br_t z' ?_
        rw [show (3 : Int32) + nI (k / 2) = nI (3 + k / 2) from nI_add 3 _]
        exact lm_cn hN (by omega) (fun z1 h1 => lm_prio (fun r => go _ r (k / 2) ht (Or.inl z')))
      · have z' : nI (k % 2) = 1 := by rw [show k % 2 = 1 by omega]; rfl
        exact br_f (nI_ne0 (by omega) (by omega)) ⟨nI_ne0 (by omega) (by omega), go _ _ (k / 2) ht (Or.inr (Or.inl z'))⟩
def lm_fill (j : Nat) : Nat → Int32 := fun c => if c < j then -1 else 0
theorem lm_fill_0 : lm_fill 0 = fun _ => 0 := by
  funext c
  exact if_neg (Nat.not_lt_zero c)
theorem lm_fill_s (j : Nat) : upd (lm_fill j) j (-1) = lm_fill (j + 1) := by
  funext c
  have key : (c = j ∨ c < j) ↔ c < j + 1 := by omega
  exact pd_if2 key
theorem lm_init {post : St2 → Prop} {mc ms kc ks : Nat} {f1 f2 f3 f4 : Int32} {a1 a2 a4 a5 a6 : Nat → Int32} (hp : post (f1, f2, f3, f4, a1, a2, lm_fill 12, a4, a5, a6)) :
    ∀ d j, j + d = 12 → wX_init_87 post mc ms kc ks f1 f2 f3 f4 (d + 1) (nI j) a1 a2 (lm_fill j) a4 a5 a6 := by
  intro d
  induction d with
  | zero =>
    intro j hj
    have e : j = 12 := by omega
    subst e
    exact br_t (nI_le (a := 12) (by omega) (by omega)) hp
  | succ d ih =>
    intro j hj
    refine br_f (nI_ge (b := 12) (by omega) (by decide)) ⟨vp_in_nI (by omega) (by decide), ?_⟩
    rw [nI_clamp (n := j) (by omega), lm_fill_s]
    exact nm_e (nm_r (nI_1 _) (ih (j + 1) (by omega)))
theorem lm_n0 {f : Nat → Nat} : ∀ T, (∀ t, t < T → f t = 0) → pd_n T f = 0 := by
  intro T
  induction T with
  | zero => intro _; rfl
  | succ T ih =>
    intro h
    rw [pd_n_s0 (h T (by omega))]
    exact ih (fun t ht => h t (by omega))
theorem lm_01 : ¬ (0 : Int32) = 1 := by decide
theorem lm_I0 {T L : Nat} (hL : L ≤ 12) : pe_I T L (fun _ _ => 0) (fun _ _ => 0) (fun _ => 0) (fun _ => 0) (lm_fill 12) (fun _ => 0) 0 0 := by
  have R : pd_R 8 T L (fun _ _ => 0) (fun _ _ => 0) (fun _ => 0) (fun _ => 0) (lm_fill 12) := by
    refine ⟨⟨fun l _ => ?_, fun l t _ _ c => absurd rfl c, fun l t _ ht c => absurd rfl c, fun l t => by show 0 < 16; omega⟩, fun l hl => ⟨fun t ht e => ?_, fun _ => if_pos (by omega)⟩, fun t ht _ => ⟨Or.inl rfl, fun c => absurd c lm_01, fun c => absurd c lm_01, fun _ => rfl⟩⟩
    · have n0 : pd_n T (fun _ => 0) = 0 := lm_n0 T (fun t ht => rfl)
      exact ⟨fun t ht => Nat.zero_le _, fun k k0 kn => by have kn' : k ≤ pd_n T (fun _ => 0) := kn; omega, fun t u ht _ _ c => absurd rfl c⟩
    · have : (0 : Nat) = 1 := e
      omega
  exact ⟨R, fun v hv c => absurd (pd_RC_live R.1 c).1 lm_01, by omega, fun _ => 0, pl_list_0 _, fun k hk => by omega⟩
theorem lm_73 {T L S N o kc ks : Nat} {xs : Nat → Int32} (hN : N ≤ 260) (hT2 : 2 ≤ T) (hT : T ≤ 8) (hL1 : 1 ≤ L) (hL : L ≤ 12) (hS1 : 1 ≤ S) (hS : S ≤ 4) (ho : o ≤ 100) :
    wL_law_73 (fun r => r = 1) N xs (nI T) (nI L) (nI S) (nI o) kc ks (nI T) (nI L) (nI S) 0 (fun _ => 0) (fun _ => 0) (lm_fill 12) (fun _ => 0) (fun _ => 0) (fun _ => 0) := by
  have e6 : ((2 * nI T) + nI o) + 2 = nI (2 * T + o + 2) := by
    rw [lm_2, nI_add]
    exact nI_add _ 2
  exact nm_r e6 ⟨_, lm_94 hN hT2 hT hL1 hL hS1 hS ho (2 * T + o + 2) 0 (fun _ _ => 0) (fun _ _ => 0) (fun _ => 0) (fun _ => 0) (lm_fill 12) (fun _ => 0) (fun _ => 0) 0 0 (by omega) (lm_I0 hL)⟩
theorem i_vc (xs : Nat → Int32) (L : Nat) (hL : L ≤ 260) : wpL_law (fun r => r = 1) L xs := by
  unfold wpL_law
  refine lm_cn (k := 0) hL (by omega) (fun z1 h1 => ⟨by decide, nm_r (e' := nI (2 + z1 % 7)) ?_ ?_⟩)
  · rw [show nI z1 - nI z1 / 7 * 7 = nI (z1 % 7) from pk_rem (d := 7) h1 (by omega) (by omega)]
    exact nI_add 2 _
  refine lm_cn (k := 1) hL (by omega) (fun z2 h2 => ⟨by decide, nm_r (e' := nI (2 + z2 % 8)) ?_ ?_⟩)
  · rw [show nI z2 - nI z2 / 8 * 8 = nI (z2 % 8) from pk_rem (d := 8) h2 (by omega) (by omega)]
    exact nI_add 2 _
  refine lm_cn (k := 2) hL (by omega) (fun z3 h3 => ⟨by decide, nm_r (e' := nI (1 + z3 % 4)) ?_ ?_⟩)
  · rw [show nI z3 - nI z3 / 4 * 4 = nI (z3 % 4) from pk_rem (d := 4) h3 (by omega) (by omega)]
    exact nI_add 1 _
  have m1 := Nat.mod_lt z1 (show 0 < 7 by omega)
  have m2 := Nat.mod_lt z2 (show 0 < 8 by omega)
  have m3 := Nat.mod_lt z3 (show 0 < 4 by omega)
  generalize eT : 2 + z1 % 7 = T
  generalize eM : 2 + z2 % 8 = M
  generalize eS : 1 + z3 % 4 = S
  refine ⟨6, 228, by omega, by omega, by omega, by omega, by omega, by omega, by omega, by omega, by omega, by omega, by omega, by omega, by omega, by omega, ?_⟩
  refine br_t (nI_le (a := 2) (by omega) (by omega)) (br_t (nI_le (b := 8) (by omega) (by omega)) ?_)
  refine br_t (nI_le (a := 1) (by omega) (by omega)) (br_t (nI_le (b := 12) (by omega) (by omega)) ?_)
  refine br_t (nI_le (a := 1) (by omega) (by omega)) (br_t (nI_le (b := 4) (by omega) (by omega)) ⟨13, ?_⟩)
  rw [← lm_fill_0]
  refine lm_init ?_ 12 0 (by omega)
  rw [lm_fill_0]
  dsimp only
  rw [show (3 : Int32) + nI T = nI (3 + T) from nI_add 3 T]
  by_cases z : L ≤ 3 + T
  · exact br_t (nI_le z (by omega)) (lm_73 (o := 0) hL (by omega) (by omega) (by omega) (by omega) (by omega) (by omega) (by omega))
  · refine br_f (nI_ge (by omega) (by omega)) ⟨by decide, ?_⟩
    have e : ((Int32.ofNat L - 1) - nI T) / 3 = nI ((L - 1 - T) / 3) := by
      have e1 : Int32.ofNat L - 1 = nI (L - 1) := pk_sub (a := L) (b := 1) (by omega)
      rw [e1, pk_sub (by omega)]
      exact pk_div (d := 3) (by omega) (by omega) (by omega)
    rw [e]
    exact lm_73 hL (by omega) (by omega) (by omega) (by omega) (by omega) (by omega) (by omega)
