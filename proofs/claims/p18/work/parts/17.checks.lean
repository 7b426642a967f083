/-! the law's checks behind a call -/
def pe_kb (g : Int64) (Q : Nat → Nat → Prop) : Prop := ∀ a b, a < 8 → b < 8 → (pl g (8 * a + b) = true ↔ Q a b)
theorem pe_kb_0 {Q : Nat → Nat → Prop} (h : ∀ a b, ¬ Q a b) : pe_kb 0 Q := fun a b _ _ => by
  rw [pl_0]
  exact ⟨fun z => (nomatch z), fun z => absurd z (h a b)⟩
theorem pe_kb_s {g : Int64} {Q Q' : Nat → Nat → Prop} {w x : Nat} (h : pe_kb g Q) (hw : w < 8) (hx : x < 8) (hQ : ∀ a b, a < 8 → b < 8 → (Q' a b ↔ (Q a b ∨ (a = w ∧ b = x)))) : pe_kb (g ||| ((1 : Int64) <<< (((8 * nI w) + nI x).toInt64 &&& 63))) Q' := fun a b ha hb => by
  rw [pl_8, nI_add, pl_or, pl_1 (by omega), Bool.or_eq_true, h a b ha hb, hQ a b ha hb, decide_eq_true_eq]
  constructor
  · intro z
    rcases z with z | z
    · exact Or.inl z
    · exact Or.inr ⟨by omega, by omega⟩
  · intro z
    rcases z with z | z
    · exact Or.inl z
    · exact Or.inr (by omega)
theorem pe_kb_c {g : Int64} {Q Q' : Nat → Nat → Prop} (h : pe_kb g Q) (hQ : ∀ a b, a < 8 → b < 8 → (Q' a b ↔ Q a b)) : pe_kb g Q' := fun a b ha hb => (h a b ha hb).trans (hQ a b ha hb).symm
/-- the edges of rows below v and, of row v, to those below u -/
def pe_up (v u : Nat) (E : Nat → Nat → Prop) (a b : Nat) : Prop := (a < v ∨ (a = v ∧ b < u)) ∧ E a b
theorem pe_up_s {v u : Nat} {E : Nat → Nat → Prop} (e : E v u) (a b : Nat) : pe_up v (u + 1) E a b ↔ (pe_up v u E a b ∨ (a = v ∧ b = u)) := by
  unfold pe_up
  constructor
  · intro z
    by_cases y : a = v ∧ b = u
    · exact Or.inr y
    · exact Or.inl ⟨by omega, z.2⟩
  · intro z
    rcases z with z | z
    · exact ⟨by omega, z.2⟩
    · rw [z.1, z.2]
      exact ⟨by omega, e⟩
theorem pe_up_n {v u : Nat} {E : Nat → Nat → Prop} (e : ¬ E v u) (a b : Nat) : pe_up v (u + 1) E a b ↔ pe_up v u E a b := by
  unfold pe_up
  constructor
  · intro z
    have : ¬ (a = v ∧ b = u) := fun y => e (by have := z.2; rw [y.1, y.2] at this; exact this)
    exact ⟨by omega, z.2⟩
  · intro z
    exact ⟨by omega, z.2⟩
theorem pe_up_r {v T : Nat} {E : Nat → Nat → Prop} (hE : ∀ a b, E a b → b < T) (a b : Nat) : pe_up (v + 1) 0 E a b ↔ pe_up v T E a b := by
  unfold pe_up
  constructor
  · intro z
    have := hE a b z.2
    exact ⟨by omega, z.2⟩
  · intro z
    exact ⟨by omega, z.2⟩
theorem ll_990 {T L S : Nat} {n : Int32} {st pr hd vl : Nat → Int32} {q : Nat → Nat → Nat} {m : Nat → Nat → Int32} {N : Nat} {xs : Nat → Int32} {kc ks x v : Nat} {post : Int32 → Prop} {J94 : Int64 → Int32 → Int32 → Int32 → Int32 → Int32 → Int32 → (Nat → Int32) → (Nat → Int32) → (Nat → Int32) → (Nat → Int32) → (Nat → Int32) → (Nat → Int32) → Prop} {J953 : Int64 → Int64 → Int32 → Prop} {x2 x3 x5 x6 x9 x10 x11 x14 x15 : Int32} {x7 : Int64} {s : Nat → Int32}
    (hT : T ≤ 8) (hL : L ≤ 12) (R : pd_R x T L q m s st hd) (hv : v < T)
    (hJ : ∀ kn al : Int64, pe_kb kn (pe_up (v + 1) 0 (pd_E T L q m)) → pe_kb al (pe_up (v + 1) 0 (pd_E1 T L q)) → J953 kn al (nI (v + 1))) :
    ∀ d u (kn al : Int64), u + d = T → pe_kb kn (pe_up v u (pd_E T L q m)) → pe_kb al (pe_up v u (pd_E1 T L q)) →
      wL_law_990 post N xs J94 J953 (nI T) x2 x3 x5 x6 x7 x9 x10 x11 x14 x15 (nI v) kc ks (nI T) (nI L) (nI S) n st pr hd (pd_xp (pd_p q)) (pd_x m) vl (d + 1) kn al (nI u) := by
  intro d
  induction d with
  | zero =>
    intro u kn al hu hk ha
    have e : u = T := by omega
    subst e
    exact br_t (nI_le (Nat.le_refl _) (by omega)) (nm_r (nI_1 _) (hJ kn al (pe_kb_c hk (fun a b _ _ => pe_up_r (pd_E_lt u L q m) a b)) (pe_kb_c ha (fun a b _ _ => pe_up_r (fun _ _ z => z.2.1) a b))))
  | succ d ih =>
    intro u kn al hu hk ha
    have huT : u < T := by omega
    refine br_f (nI_ge (by omega) (by omega)) ?_
    by_cases e : u = v
    · refine br_t (by rw [e]) (nm_r (nI_1 _) (ih (u + 1) kn al (by omega) (pe_kb_c hk (fun a b _ _ => pe_up_n (fun z => ?_) a b)) (pe_kb_c ha (fun a b _ _ => pe_up_n (fun z => ?_) a b))))
      · rw [e] at z; exact pe_E_irr v z
      · obtain ⟨_, _, _, _, _, z⟩ := z
        rw [e] at z; omega
    · refine br_f (fun z => e ((nI_eq (by omega) (by omega)).mp z)) (xr_waits hT hL R hv huT (fun z => e z.symm) (fun z => br_t rfl (nm_e (br_f (by decide) (nm_e (nm_r (nI_1 _) (ih (u + 1) _ _ (by omega) ?_ ?_)))))) (fun z z1 => br_f (by decide) (br_f (by decide) (nm_e (nm_r (nI_1 _) (ih (u + 1) _ _ (by omega) ?_ ?_))))) (fun z z1 => br_f (by decide) (br_t rfl (nm_r (nI_1 _) (ih (u + 1) _ _ (by omega) ?_ ?_)))))
      · exact pe_kb_s hk (by omega) (by omega) (fun a b _ _ => pe_up_s z a b)
      · obtain ⟨z1, z2, l, z3, z4, z5, z6⟩ := z
        exact pe_kb_s ha (by omega) (by omega) (fun a b _ _ => pe_up_s ⟨z1, z2, l, z3, z5, z6⟩ a b)
      · exact pe_kb_c hk (fun a b _ _ => pe_up_n z a b)
      · exact pe_kb_s ha (by omega) (by omega) (fun a b _ _ => pe_up_s z1 a b)
      · exact pe_kb_c hk (fun a b _ _ => pe_up_n z a b)
      · exact pe_kb_c ha (fun a b _ _ => pe_up_n z1 a b)
theorem pe_kb_acy {T L : Nat} {g : Int64} {q : Nat → Nat → Nat} {m : Nat → Nat → Int32} {s : Nat → Int32} {Q : Nat → Nat → Prop} (h : pd_G T L q m s) (hk : pe_kb g Q) (hQ : ∀ a b, Q a b → pd_E T L q m a b) (ac : ∀ v, v < T → ¬ pd_C T L q m v) : ∀ v, v < 8 → ¬ pe_C (pe_g g) v := fun v _ c => by
  have c' : pd_C T L q m v := pe_mono (fun a b z _ => ⟨hQ a b ((hk a b z.1 z.2.1).mp z.2.2), trivial⟩) c
  exact ac v (pd_RC_live h c').2.2.2 c'
theorem ll_953 {T L S : Nat} {n : Int32} {st pr hd vl : Nat → Int32} {q : Nat → Nat → Nat} {m : Nat → Nat → Int32} {N : Nat} {xs : Nat → Int32} {kc ks x : Nat} {post : Int32 → Prop} {J94 : Int64 → Int32 → Int32 → Int32 → Int32 → Int32 → Int32 → (Nat → Int32) → (Nat → Int32) → (Nat → Int32) → (Nat → Int32) → (Nat → Int32) → (Nat → Int32) → Prop} {x2 x3 x5 x6 x9 x10 x11 x14 x15 : Int32} {x7 : Int64} {s : Nat → Int32}
    (hT : T ≤ 8) (hL : L ≤ 12) (R : pd_R x T L q m s st hd) (ac : ∀ v, v < T → ¬ pd_C T L q m v) (hA : x11 = 6 → pe_all1 T L q m) (hV : x14 = 0 → ∀ v, v < T → st v = 3 → bt x15 v = true)
    (hJ : J94 x7 x9 (x10 + 1) (nI T) (nI L) (nI S) n st pr hd (pd_xp (pd_p q)) (pd_x m) vl) :
    ∀ d v (kn al : Int64), v + d = T → pe_kb kn (pe_up v 0 (pd_E T L q m)) → pe_kb al (pe_up v 0 (pd_E1 T L q)) →
      wL_law_953 post N xs J94 (nI T) x2 x3 x5 x6 x7 x9 x10 x11 x14 x15 kc ks (nI T) (nI L) (nI S) n st pr hd (pd_xp (pd_p q)) (pd_x m) vl (d + 1) kn al (nI v) := by
  intro d
  induction d with
  | zero =>
    intro v kn al hv hk ha
    refine br_t (nI_le (by omega) (by omega)) (lc_cyclic (pe_kb_acy R.1 hk (fun a b z => z.2) ac) (br_t rfl ?_))
    by_cases e : x11 = 6
    · exact br_t e (lc_cyclic (pe_kb_acy R.1 ha (fun a b z => pe_all_E (hA e) z.2) ac) (br_t rfl (nm_e hJ)))
    · exact br_f e (nm_e hJ)
  | succ d ih =>
    intro v kn al hv hk ha
    have hvT : v < T := by omega
    have go := ll_990 (N := N) (xs := xs) (kc := kc) (ks := ks) (x2 := x2) (x3 := x3) (x5 := x5) (x6 := x6) (x7 := x7) (x9 := x9) (x10 := x10) (x11 := x11) (x14 := x14) (x15 := x15) (post := post) (J94 := J94) (S := S) (n := n) (pr := pr) (vl := vl) hT hL R hvT (fun kn al hk ha => ih (v + 1) kn al (by omega) hk ha) T 0 kn al (by omega) hk ha
    refine br_f (nI_ge (by omega) (by omega)) ?_
    by_cases e : x14 = 0
    · refine br_t e (xr_state hT hvT ?_)
      by_cases z : st v = 3
      · refine br_t z (br_f (fun y => ?_) ⟨T + 1, go⟩)
        rw [pl_t0 _ (by omega)] at y
        rw [hV e v hvT z] at y
        exact nomatch y
      · exact br_f z ⟨T + 1, go⟩
    · exact br_f e ⟨T + 1, go⟩
theorem ll_907 {T L S : Nat} {st pr hd vl : Nat → Int32} {q : Nat → Nat → Nat} {m : Nat → Nat → Int32} {N : Nat} {xs : Nat → Int32} {kc ks c : Nat} {post : Int32 → Prop} {J94 : Int64 → Int32 → Int32 → Int32 → Int32 → Int32 → Int32 → (Nat → Int32) → (Nat → Int32) → (Nat → Int32) → (Nat → Int32) → (Nat → Int32) → (Nat → Int32) → Prop} {x2 x3 x5 x6 x10 x11 x14 x15 : Int32} {x7 : Int64} {w : Nat → Nat}
    (hc : c ≤ 8) (hw : pl_list x7 w c) (hv : ∀ k, k < c → vl k = nI (w k))
    (K : ∃ f, wL_law_953 post N xs J94 (nI T) x2 x3 x5 x6 x7 (nI c) x10 x11 x14 x15 kc ks (nI T) (nI L) (nI S) (nI c) st pr hd (pd_xp (pd_p q)) (pd_x m) vl f 0 0 0) :
    ∀ d k, k + d = c → wL_law_907 post N xs J94 (nI T) x2 x3 x5 x6 x7 (nI c) x10 x11 x14 x15 kc ks (nI T) (nI L) (nI S) (nI c) st pr hd (pd_xp (pd_p q)) (pd_x m) vl (d + 1) (nI k) := by
  intro d
  induction d with
  | zero =>
    intro k hk
    exact br_t (nI_le (by omega) (by omega)) K
  | succ d ih =>
    intro k hk
    refine br_f (nI_ge (by omega) (by omega)) (xr_victim hc (by omega) (br_t ?_ (nm_r (nI_1 _) (ih (k + 1) (by omega)))))
    rw [pl_nib hw hc (by omega), hv k (by omega)]
theorem ll_892 {T L S : Nat} {st pr hd vl : Nat → Int32} {q : Nat → Nat → Nat} {m : Nat → Nat → Int32} {N : Nat} {xs : Nat → Int32} {kc ks c : Nat} {post : Int32 → Prop} {J94 : Int64 → Int32 → Int32 → Int32 → Int32 → Int32 → Int32 → (Nat → Int32) → (Nat → Int32) → (Nat → Int32) → (Nat → Int32) → (Nat → Int32) → (Nat → Int32) → Prop} {x2 x3 x5 x6 x10 x11 x14 x15 : Int32} {x7 : Int64} {w : Nat → Nat} {s : Nat → Int32}
    (hT : T ≤ 8) (hL : L ≤ 12) (R : pd_R 8 T L q m s st hd) (ac : ∀ v, v < T → ¬ pd_C T L q m v) (hA : x11 = 6 → pe_all1 T L q m) (hV : x14 = 0 → ∀ v, v < T → st v = 3 → bt x15 v = true)
    (hc : c ≤ 8) (hw : pl_list x7 w c) (hv : ∀ k, k < c → vl k = nI (w k)) (hJ : J94 x7 (nI c) (x10 + 1) (nI T) (nI L) (nI S) (nI c) st pr hd (pd_xp (pd_p q)) (pd_x m) vl) :
    wL_law_892 post N xs J94 (nI T) x2 x3 x5 x6 x7 (nI c) x10 x11 x14 x15 kc ks (nI T) (nI L) (nI S) (nI c) st pr hd (pd_xp (pd_p q)) (pd_x m) vl :=
  br_t rfl ⟨c + 1, ll_907 hc hw hv ⟨T + 1, ll_953 hT hL R ac hA hV hJ T 0 0 0 (by omega) (pe_kb_0 (fun a b z => by unfold pe_up at z; omega)) (pe_kb_0 (fun a b z => by unfold pe_up at z; omega))⟩ c 0 (by omega)⟩
