theorem pd_cnt_t : ∀ n, pd_cnt (fun _ => true) n = n := by
  intro n
  induction n with
  | zero => rfl
  | succ n ih =>
    show pd_cnt (fun _ => true) n + 1 = n + 1
    rw [ih]
theorem pd_mk_iff {p : Nat → Nat → Bool} {m : Nat → Nat → Int32} {l t : Nat} : pd_mk p m l t ≠ 0 ↔ (p l t = true ∨ m l t ≠ 0) := by
  constructor
  · intro h
    exact (pd_mk_m h).elim Or.inr Or.inl
  · intro h
    show (if p l t = true then (1 : Int32) else m l t) ≠ 0
    by_cases z : p l t = true
    · rw [if_pos z]; decide
    · rw [if_neg z]; exact h.resolve_left z
theorem pe_mm_iff {T L S x : Nat} {q : Nat → Nat → Nat} {m : Nat → Nat → Int32} {s : Nat → Int32} {x11 x13 : Int32} (hS1 : 1 ≤ S) (hS : S ≤ 4) (h : pd_G T L q m s) (hk : x11 = 6 ∨ (x11 = 5 ∧ x13 = nI x ∧ x < S)) (k t : Nat) (hkL : k < L) (ht : t < T) :
    pe_mm T L S q m x11 x k t ≠ 0 ↔ (2 ≤ q k t ∧ pe_cn S m x11 x13 k t) := by
  have h2 := h.2.1 k t hkL ht
  rcases hk with e | ⟨e, e2, e3⟩
  · subst e
    rw [show pe_mm T L S q m 6 x = pd_mk (pd_ma T L q) m from if_pos rfl, pd_mk_iff]
    simp only [pd_ma, decide_eq_true_eq]
    constructor
    · intro z
      exact ⟨z.elim (fun y => y.2.2) h2, Or.inl rfl⟩
    · intro z
      exact Or.inl ⟨hkL, ht, z.1⟩
  · subst e
    subst e2
    rw [show pe_mm T L S q m 5 x = pd_mk (pd_ms S x T L q) m from if_neg (by decide), pd_mk_iff]
    have hm := Nat.mod_lt k (show 0 < S by omega)
    simp only [pd_ms, decide_eq_true_eq]
    constructor
    · intro z
      rcases z with z | z
      · exact ⟨z.2.2.2, Or.inr (Or.inl (by rw [z.2.1]))⟩
      · exact ⟨h2 z, Or.inr (Or.inr z)⟩
    · intro ⟨z1, z2⟩
      rcases z2 with z | z | z
      · exact absurd z (by decide)
      · rw [nI_eq (by omega) (by omega)] at z
        exact Or.inl ⟨hkL, z, ht, z1⟩
      · exact Or.inr z
theorem pe_mm_R {T L S x : Nat} {q : Nat → Nat → Nat} {m : Nat → Nat → Int32} {s st hd : Nat → Int32} {x11 : Int32} (R : pd_R 8 T L q m s st hd) : pd_R 8 T L q (pe_mm T L S q m x11 x) s st hd := by
  unfold pe_mm
  by_cases e : x11 = 6
  · rw [if_pos e]; exact pd_R_mk R (fun a b h => (of_decide_eq_true h).2.2)
  · rw [if_neg e]; exact pd_R_mk R (fun a b h => (of_decide_eq_true h).2.2.2)
theorem ll_468 {T L S : Nat} {st pr hd vl : Nat → Int32} {q : Nat → Nat → Nat} {m : Nat → Nat → Int32} {N : Nat} {xs : Nat → Int32} {kc ks : Nat} {post : Int32 → Prop} {J94 : Int64 → Int32 → Int32 → Int32 → Int32 → Int32 → Int32 → (Nat → Int32) → (Nat → Int32) → (Nat → Int32) → (Nat → Int32) → (Nat → Int32) → (Nat → Int32) → Prop} {x5 x6 x10 x11 x13 x14 : Int32} {c t : Nat} {x7 : Int64} {s : Nat → Int32} (hT2 : 2 ≤ T) (hT : T ≤ 8) (hL : L ≤ 12) (hS1 : 1 ≤ S) (hS : S ≤ 4) (I : pe_I T L q m s st hd vl c x7) (ht : t < T)
    (hk : (x14 = 0 ∧ (x11 = 0 ∨ x11 = 1 ∨ x11 = 2 ∨ x11 = 3 ∨ x11 = 4 ∨ (x11 = 5 ∧ nI S ≤ x13))) ∨ (x14 = 1 ∧ ∃ x, x11 = 6 ∨ (x11 = 5 ∧ x13 = nI x ∧ x < S)))
    (K : ∀ (q' : Nat → Nat → Nat) (m' : Nat → Nat → Int32) (s' st' hd' pr' vl' : Nat → Int32) (c' : Nat) (x7' : Int64), pe_I T L q' m' s' st' hd' vl' c' x7' → J94 x7' (nI c') (x10 + 1) (nI T) (nI L) (nI S) (nI c') (st') (pr') (hd') (pd_xp (pd_p q')) (pd_x (m')) (vl')) :
    ∀ d j (x15 : Int32), j + d = T → (∀ u, u < 32 → (bt x15 u = true ↔ u < j ∧ st u = 3)) →
      wL_law_468 post N xs J94 (nI T) (nI L) (nI S) x5 x6 x7 (nI c) x10 x11 (nI t) x13 x14 kc ks (nI T) (nI L) (nI S) (nI c) st pr hd (pd_xp (pd_p q)) (pd_x m) vl (d + 1) x15 (nI j) := by
  intro d
  induction d with
  | zero =>
    intro j x15 hj h
    have e : j = T := by omega
    subst e
    refine br_t (nI_le (Nat.le_refl _) (by omega)) ?_
    rcases hk with ⟨e, hk⟩ | ⟨e, x, hk⟩
    · exact br_t e (ll_779_0 hT hL hS I ht (fun v hv z => (h v (by omega)).mpr ⟨hv, z⟩) hk K)
    · have h14 : x14 ≠ 0 := by rw [e]; decide
      have hm := pe_mm_iff (x := x) hS1 hS I.1.1 hk
      have RM := pe_mm_R (S := S) (x := x) (x11 := x11) I.1
      refine br_f h14 ⟨L + 1, ll_511 (m' := pe_mm j L S q m x11 x) hT hL hS1 hS I.1 hm (fun g hg => ⟨j + 1, ?_⟩) L 0 0 (by omega) (pe_kb_0 (fun a b z => ?_))⟩
      · have hbits : ∀ i, i < j → bt (((1 : Int32) <<< (nI j &&& 31)) - 1) i = true := fun i hi => by rw [pl_full j (by omega) i (by omega)]; exact decide_eq_true hi
        refine ll_673 hT I.1 hg (fun x7' w c' hr hl => ll_779_1 (x := x) hT2 hT hL hS1 hS I.1 h14 hk hr hl K) j 0 0 0 _ (fun _ => 0) (by omega) (pe_pk_0 RM.1 (fun y hy => ?_)) (pl_list_0 _) (by omega) ?_
        · apply Nat.le_of_not_lt
          intro z
          rw [hbits y z] at hy
          exact nomatch hy
        · rw [pd_cnt_congr (bt (((1 : Int32) <<< (nI j &&& 31)) - 1)) (fun _ => true) j hbits, pd_cnt_t]
          rfl
      · obtain ⟨k, hkL, c1, ha, hb, z1, _, _⟩ := z
        have := ((hm k a hkL ha).mp z1).1
        omega
  | succ d ih =>
    intro j x15 hj h
    refine br_f (nI_ge (by omega) (by omega)) (xr_state hT (by omega) ?_)
    by_cases z : st j = 3
    · exact br_t z (nm_e (nm_r (nI_1 _) (ih (j + 1) _ (by omega) (pd_bj (by omega) h z))))
    · exact br_f z (nm_r (nI_1 _) (ih (j + 1) _ (by omega) (pd_bn h z)))
theorem ll_436 {T L S : Nat} {st pr hd vl : Nat → Int32} {q : Nat → Nat → Nat} {m : Nat → Nat → Int32} {N : Nat} {xs : Nat → Int32} {kc ks : Nat} {post : Int32 → Prop} {J94 : Int64 → Int32 → Int32 → Int32 → Int32 → Int32 → Int32 → (Nat → Int32) → (Nat → Int32) → (Nat → Int32) → (Nat → Int32) → (Nat → Int32) → (Nat → Int32) → Prop} {x5 x6 x10 x11 x13 : Int32} {c t : Nat} {x7 : Int64} {s : Nat → Int32} (hT2 : 2 ≤ T) (hT : T ≤ 8) (hL : L ≤ 12) (hS1 : 1 ≤ S) (hS : S ≤ 4) (I : pe_I T L q m s st hd vl c x7) (ht : t < T)
    (hk : x11 = 0 ∨ x11 = 1 ∨ x11 = 2 ∨ x11 = 3 ∨ x11 = 4 ∨ (x11 = 5 ∧ ∃ x, x13 = nI x ∧ x ≤ S) ∨ x11 = 6)
    (K : ∀ (q' : Nat → Nat → Nat) (m' : Nat → Nat → Int32) (s' st' hd' pr' vl' : Nat → Int32) (c' : Nat) (x7' : Int64), pe_I T L q' m' s' st' hd' vl' c' x7' → J94 x7' (nI c') (x10 + 1) (nI T) (nI L) (nI S) (nI c') (st') (pr') (hd') (pd_xp (pd_p q')) (pd_x (m')) (vl')) :
    wL_law_436 post N xs J94 (nI T) (nI L) (nI S) x5 x6 x7 (nI c) x10 x11 (nI t) x13 kc ks (nI T) (nI L) (nI S) (nI c) st pr hd (pd_xp (pd_p q)) (pd_x m) vl := by
  have go := fun (x14 : Int32) hk' => ll_468 (N := N) (xs := xs) (kc := kc) (ks := ks) (post := post) (J94 := J94) (x5 := x5) (x6 := x6) (x10 := x10) (x11 := x11) (x13 := x13) (x14 := x14) (pr := pr) (S := S) hT2 hT hL hS1 hS I ht hk' K T 0 0 (by omega) pd_b00
  by_cases e6 : x11 = 6
  · exact br_t e6 ⟨T + 1, go 1 (Or.inr ⟨rfl, 0, Or.inl e6⟩)⟩
  · refine br_f e6 ?_
    by_cases e5 : x11 = 5
    · obtain ⟨x, ex, hx⟩ : ∃ x, x13 = nI x ∧ x ≤ S := by
        rcases hk with h | h | h | h | h | h | h
        · rw [e5] at h; exact absurd h (by decide)
        · rw [e5] at h; exact absurd h (by decide)
        · rw [e5] at h; exact absurd h (by decide)
        · rw [e5] at h; exact absurd h (by decide)
        · rw [e5] at h; exact absurd h (by decide)
        · exact h.2
        · exact absurd h e6
      refine br_t e5 ?_
      by_cases z : x < S
      · refine br_f ?_ ⟨T + 1, go 1 (Or.inr ⟨rfl, x, Or.inr ⟨e5, ex, z⟩⟩)⟩
        rw [ex]
        exact nI_ge z (by omega)
      · have zz : nI S ≤ x13 := by rw [ex]; exact nI_le (by omega) (by omega)
        exact br_t zz ⟨T + 1, go 0 (Or.inl ⟨rfl, Or.inr (Or.inr (Or.inr (Or.inr (Or.inr ⟨e5, zz⟩))))⟩)⟩
    · refine br_f e5 ⟨T + 1, go 0 (Or.inl ⟨rfl, ?_⟩)⟩
      rcases hk with h | h | h | h | h | h | h
      · exact Or.inl h
      · exact Or.inr (Or.inl h)
      · exact Or.inr (Or.inr (Or.inl h))
      · exact Or.inr (Or.inr (Or.inr (Or.inl h)))
      · exact Or.inr (Or.inr (Or.inr (Or.inr (Or.inl h))))
      · exact absurd h.1 e5
      · exact absurd h e6
