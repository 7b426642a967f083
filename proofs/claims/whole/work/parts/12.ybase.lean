/-! the reference's walks: small methods, leaving, ending -/
def pd_yv (q : Nat → Nat → Nat) : Nat → Int32 := fun c => pd_v (q (c % 12) (c / 12))
theorem pd_yv_at (q : Nat → Nat → Nat) {l t : Nat} (hl : l < 12) : pd_yv q (t * 12 + l) = pd_v (q l t) := by
  unfold pd_yv
  rw [show (t * 12 + l) / 12 = t by omega, show (t * 12 + l) % 12 = l by omega]
theorem pd_yv_upd (q : Nat → Nat → Nat) {l t : Nat} (hl : l < 12) (k : Nat) : upd (pd_yv q) (t * 12 + l) (pd_v k) = pd_yv (pd_set q l t k) := by
  funext c
  show (if c = t * 12 + l then pd_v k else pd_v (q (c % 12) (c / 12))) = pd_v (if c % 12 = l ∧ c / 12 = t then k else q (c % 12) (c / 12))
  by_cases h : c = t * 12 + l
  · rw [if_pos h, if_pos (by omega : c % 12 = l ∧ c / 12 = t)]
  · rw [if_neg h, if_neg (by omega : ¬ (c % 12 = l ∧ c / 12 = t))]
theorem pd_yv_upd0 (q : Nat → Nat → Nat) {l t : Nat} (hl : l < 12) : upd (pd_yv q) (t * 12 + l) (-1) = pd_yv (pd_set q l t 0) := pd_yv_upd q hl 0
theorem pd_v_sub (k : Nat) (h : 0 < k) : pd_v k - 1 = pd_v (k - 1) := by
  rcases k with _ | _ | k
  · omega
  · decide +kernel
  · exact nI_pred k
theorem yw_isT_t {T L S : Nat} {n : Int32} {s pr vl rc : Nat → Int32} {q : Nat → Nat → Nat} {m : Nat → Nat → Int32} {post : Int32 → Prop} {t : Nat} (hT : T ≤ 8) (ht : t < T) (hp : post 1) : wpY_isTransaction post (nI T, nI L, nI S, n, pd_yv q, pd_y m, s, pr, vl, rc) (nI t) :=
  br_f (nI_pos (by omega)) (br_f (nI_ge ht (by omega)) hp)
theorem yw_isT_f {T L S : Nat} {n : Int32} {s pr vl rc : Nat → Int32} {q : Nat → Nat → Nat} {m : Nat → Nat → Int32} {post : Int32 → Prop} {x : Int32} (hx : x < 0 ∨ nI T ≤ x) (hp : post 0) : wpY_isTransaction post (nI T, nI L, nI S, n, pd_yv q, pd_y m, s, pr, vl, rc) x := by
  by_cases h0 : x < 0
  · exact br_t h0 hp
  · exact br_f h0 (br_t (hx.resolve_left h0) hp)
theorem yw_isL_t {T L S : Nat} {n : Int32} {s pr vl rc : Nat → Int32} {q : Nat → Nat → Nat} {m : Nat → Nat → Int32} {post : Int32 → Prop} {l : Nat} (hL : L ≤ 12) (hl : l < L) (hp : post 1) : wpY_isLock post (nI T, nI L, nI S, n, pd_yv q, pd_y m, s, pr, vl, rc) (nI l) :=
  br_f (nI_pos (by omega)) (br_f (nI_ge hl (by omega)) hp)
theorem yw_isL_f {T L S : Nat} {n : Int32} {s pr vl rc : Nat → Int32} {q : Nat → Nat → Nat} {m : Nat → Nat → Int32} {post : Int32 → Prop} {x : Int32} (hx : x < 0 ∨ nI L ≤ x) (hp : post 0) : wpY_isLock post (nI T, nI L, nI S, n, pd_yv q, pd_y m, s, pr, vl, rc) x := by
  by_cases h0 : x < 0
  · exact br_t h0 hp
  · exact br_f h0 (br_t (hx.resolve_left h0) hp)
theorem yw_live {T L S : Nat} {n : Int32} {s pr vl rc : Nat → Int32} {q : Nat → Nat → Nat} {m : Nat → Nat → Int32} {post : Int32 → Prop} {t : Nat} (hT : T ≤ 8) (ht : t < T) (h1 : s t = 1 → post 1) (h0 : ¬ s t = 1 → post 0) : wpY_isLive post (nI T, nI L, nI S, n, pd_yv q, pd_y m, s, pr, vl, rc) (nI t) := by
  unfold wpY_isLive
  dsimp only
  rw [nI_clamp (n := t) (by omega)]
  refine yw_isT_t hT ht (br_f (by decide) ⟨vp_in_nI (by omega) (by decide), ?_⟩)
  exact br_c h1 h0
theorem yw_live_f {T L S : Nat} {n : Int32} {s pr vl rc : Nat → Int32} {q : Nat → Nat → Nat} {m : Nat → Nat → Int32} {post : Int32 → Prop} {x : Int32} (hx : x < 0 ∨ nI T ≤ x) (hp : post 0) : wpY_isLive post (nI T, nI L, nI S, n, pd_yv q, pd_y m, s, pr, vl, rc) x := by
  unfold wpY_isLive
  dsimp only
  exact yw_isT_f hx (br_t rfl hp)
theorem yw_lower {T L S : Nat} {n : Int32} {s pr vl rc : Nat → Int32} {q : Nat → Nat → Nat} {m : Nat → Nat → Int32} {post : Int32 → Prop} {a b : Nat} (ha : a < 8) (hb : b < 8) (h1 : pd_lt pr a b → post 1) (h0 : ¬ pd_lt pr a b → post 0) : wpY_lower post (nI T, nI L, nI S, n, pd_yv q, pd_y m, s, pr, vl, rc) (nI a) (nI b) := by
  have ia : vp_in (nI a) 8 := vp_in_nI ha (by decide)
  have ib : vp_in (nI b) 8 := vp_in_nI hb (by decide)
  unfold wpY_lower
  dsimp only
  rw [nI_clamp (n := a) (by omega), nI_clamp (n := b) (by omega)]
  refine ⟨ia, ib, ?_⟩
  by_cases c : pr a < pr b
  · exact br_t c (h1 (Or.inl c))
  · refine br_f c ⟨ia, ib, ?_⟩
    by_cases e : pr a = pr b
    · refine br_t e ?_
      by_cases d : b ≤ a
      · exact br_t (nI_le d (by omega)) (h0 (fun z => z.elim c (fun y => by omega)))
      · exact br_f (nI_ge (by omega) (by omega)) (h1 (Or.inr ⟨e, by omega⟩))
    · exact br_f e (h0 (fun z => z.elim c (fun y => e y.1)))
theorem yw_leave_l {T L S : Nat} {n : Int32} {s pr vl rc : Nat → Int32} {q : Nat → Nat → Nat} {m : Nat → Nat → Int32} {post : SY → Prop} {l t : Nat} (hT : T ≤ 8) (hb : ∀ a b, q a b < 16) (hl : l < 12) (hp : post (nI T, nI L, nI S, n, pd_yv (pd_rem T q l t), pd_y (pd_mrem T q m l t), s, pr, vl, rc)) :
    ∀ d j, j + d = T → wY_leave_45 post (nI l) (pd_v (q l t)) (nI T) (nI L) (nI S) n (d + 1) (nI j) (pd_yv (pd_rem j q l t)) (pd_y (pd_mrem j q m l t)) s pr vl rc := by
  intro d
  induction d with
  | zero =>
    intro j hj
    have e : j = T := by omega
    subst e
    exact br_t (nI_le (Nat.le_refl _) (by omega)) hp
  | succ d ih =>
    intro j hj
    have i := ih (j + 1) (by omega)
    have hr := pd_rem_lt (T := j) (l := l) (t := t) hb l j
    have ht := hb l t
    have hqj := hb l j
    have hi : vp_in (nI (j * 12 + l)) 96 := vp_in_nI (by omega) (by decide)
    refine br_f (nI_ge (by omega) (by omega)) (nm_r (pd_ix12 l j) ?_)
    rw [nI_clamp (n := j * 12 + l) (by omega), pd_yv_at _ hl]
    refine ⟨hi, ?_⟩
    by_cases z : q l t < pd_rem j q l t l j
    · obtain ⟨jt, ej⟩ := pd_rem_j q l t j z
      have z' : q l t < q l j := by rw [ej] at z; exact z
      refine br_f (fun y => ((pd_v_le _ hr _ ht).mp y) z) ⟨hi, hi, ?_⟩
      rw [pd_v_sub _ (by omega), pd_yv_upd _ hl, pd_rem_s1 q l t j z]
      refine nm_e ⟨hi, ?_⟩
      rw [pd_yv_at _ hl, pd_rem_gt (j + 1) q l t (b := j) (by omega) z']
      by_cases w : q l j = 2
      · refine br_t ((pd_v_zero _ (by omega)).mpr (by omega)) ⟨hi, ?_⟩
        rw [pd_b0, pd_y_upd _ hl, pd_mrem_s1 q m l t j z' w]
        exact nm_e (nm_r (nI_1 _) i)
      · rw [← pd_mrem_s0 q m l t j (fun y => w y.2)] at i
        exact br_f (fun y => by have := (pd_v_zero _ (by omega)).mp y; omega) (nm_r (nI_1 _) i)
    · have z' : ¬ (q l t < q l j ∧ q l j = 2) := fun y => by
        have jt : j ≠ t := fun e => by rw [e] at y; omega
        rw [pd_rem_le j q l t (b := j) jt (by omega)] at z
        exact z y.1
      rw [← pd_rem_s0 q l t j z, ← pd_mrem_s0 q m l t j z'] at i
      exact br_t ((pd_v_le _ hr _ ht).mpr z) (nm_r (nI_1 _) i)
theorem yw_leave {T L S : Nat} {n : Int32} {s pr vl rc : Nat → Int32} {q : Nat → Nat → Nat} {m : Nat → Nat → Int32} {post : SY → Prop} {l t : Nat} (hT : T ≤ 8) (hb : ∀ a b, q a b < 16) (hl : l < 12) (ht : t < 8) (e : q l t ≠ 0) (hp : post (nI T, nI L, nI S, n, pd_yv (pd_rem T q l t), pd_y (pd_mrem T q m l t), s, pr, vl, rc)) : wpY_leave post (nI T, nI L, nI S, n, pd_yv q, pd_y m, s, pr, vl, rc) (nI t) (nI l) := by
  have hi : vp_in (nI (t * 12 + l)) 96 := vp_in_nI (by omega) (by decide)
  unfold wpY_leave
  dsimp only
  rw [pd_ix12, nI_clamp (n := t * 12 + l) (by omega), pd_yv_at q hl]
  refine ⟨hi, nm_e (br_f (fun z => e ((pd_v_none _ (hb l t)).mp z)) ⟨hi, ?_⟩)⟩
  rw [pd_yv_upd0 q hl, pd_rem_0]
  refine nm_e ⟨hi, ?_⟩
  rw [pd_b0, pd_y_upd m hl, pd_mrem_0 q]
  exact nm_e ⟨T + 1, yw_leave_l hT hb hl hp T 0 (by omega)⟩
theorem yw_end2 {T L S : Nat} {n : Int32} {s pr vl rc : Nat → Int32} {q : Nat → Nat → Nat} {m : Nat → Nat → Int32} {post : SY → Prop} {t : Nat} {v : Int32} (hT : T ≤ 8) (hL : L ≤ 12) (ht : t < 8) (hb : ∀ a b, q a b < 16)
    (K : post (nI T, nI L, nI S, n, pd_yv ((pd_it pd_c2 T t q m L).1), pd_y ((pd_it pd_c2 T t q m L).2), upd s t v, pr, vl, rc)) :
    ∀ d j, j + d = L → wY_end_38 post (nI t) v (d + 1) (nI j) (nI T) (nI L) (nI S) n (pd_yv ((pd_it pd_c2 T t q m j).1)) (pd_y ((pd_it pd_c2 T t q m j).2)) s pr vl rc := by
  intro d
  induction d with
  | zero =>
    intro j hj
    have e : j = L := by omega
    subst e
    refine br_t (nI_le (Nat.le_refl _) (by omega)) ?_
    rw [nI_clamp (n := t) (by omega)]
    exact ⟨vp_in_nI ht (by decide), nm_e K⟩
  | succ d ih =>
    intro j hj
    have i := ih (j + 1) (by omega)
    have hbj := pd_it_lt (c := pd_c2) (T := T) (t := t) (m := m) hb j
    refine br_f (nI_ge (by omega) (by omega)) ?_
    rw [pd_ix12, nI_clamp (n := t * 12 + j) (by omega), pd_yv_at _ (by omega)]
    refine ⟨vp_in_nI (by omega) (by decide), ?_⟩
    by_cases e : (pd_it pd_c2 T t q m j).1 j t = 1
    · rw [pd_it_t (pd_c2_iff.mpr e)] at i
      exact br_t ((pd_v_zero _ (hbj j t)).mpr e) (yw_leave hT hbj (by omega) ht (by omega) (nm_r (nI_1 _) i))
    · rw [pd_it_f (fun z => e (pd_c2_iff.mp z))] at i
      exact br_f (fun z => e ((pd_v_zero _ (hbj j t)).mp z)) (nm_r (nI_1 _) i)
theorem yw_end1 {T L S : Nat} {n : Int32} {s pr vl rc : Nat → Int32} {q : Nat → Nat → Nat} {m : Nat → Nat → Int32} {post : SY → Prop} {t : Nat} {v : Int32} (hT : T ≤ 8) (hL : L ≤ 12) (ht : t < 8) (hb : ∀ a b, q a b < 16)
    (K : ∃ k, wY_end_38 post (nI t) v k 0 (nI T) (nI L) (nI S) n (pd_yv ((pd_it pd_c1 T t q m L).1)) (pd_y ((pd_it pd_c1 T t q m L).2)) s pr vl rc) :
    ∀ d j, j + d = L → wY_end_2 post (nI t) v (d + 1) (nI j) (nI T) (nI L) (nI S) n (pd_yv ((pd_it pd_c1 T t q m j).1)) (pd_y ((pd_it pd_c1 T t q m j).2)) s pr vl rc := by
  intro d
  induction d with
  | zero =>
    intro j hj
    have e : j = L := by omega
    subst e
    exact br_t (nI_le (Nat.le_refl _) (by omega)) K
  | succ d ih =>
    intro j hj
    have i := ih (j + 1) (by omega)
    have hbj := pd_it_lt (c := pd_c1) (T := T) (t := t) (m := m) hb j
    refine br_f (nI_ge (by omega) (by omega)) ?_
    rw [pd_ix12, nI_clamp (n := t * 12 + j) (by omega), pd_yv_at _ (by omega)]
    refine ⟨vp_in_nI (by omega) (by decide), ?_⟩
    by_cases e : 2 ≤ (pd_it pd_c1 T t q m j).1 j t
    · rw [pd_it_t (pd_c1_iff.mpr e)] at i
      exact br_f (fun z => ((pd_v_le0 _ (hbj j t)).mp z) e) (yw_leave hT hbj (by omega) ht (by omega) (nm_r (nI_1 _) i))
    · rw [pd_it_f (fun z => e (pd_c1_iff.mp z))] at i
      exact br_t ((pd_v_le0 _ (hbj j t)).mpr e) (nm_r (nI_1 _) i)
theorem yw_end {T L S : Nat} {n : Int32} {s pr vl rc : Nat → Int32} {q : Nat → Nat → Nat} {m : Nat → Nat → Int32} {post : SY → Prop} {t : Nat} {v : Int32} (hT : T ≤ 8) (hL : L ≤ 12) (ht : t < 8) (hb : ∀ a b, q a b < 16)
    (K : post (nI T, nI L, nI S, n, pd_yv ((pd_end T L t q m).1), pd_y ((pd_end T L t q m).2), upd s t v, pr, vl, rc)) : wpY_end post (nI T, nI L, nI S, n, pd_yv q, pd_y m, s, pr, vl, rc) (nI t) v :=
  ⟨L + 1, yw_end1 hT hL ht hb ⟨L + 1, yw_end2 hT hL ht (pd_it_lt hb L) K L 0 (by omega)⟩ L 0 (by omega)⟩
/-! single edges -/
theorem yw_waits_l {T L S : Nat} {n : Int32} {s pr vl rc : Nat → Int32} {q : Nat → Nat → Nat} {m : Nat → Nat → Int32} {post : Int32 → Prop} {t u : Nat} (hT : T ≤ 8) (hL : L ≤ 12) (hb : ∀ a b, q a b < 16) (ht : t < T) (hu : u < T)
    (h2 : pd_E T L q m t u → post 2) (h1 : ¬ pd_E T L q m t u → pd_E1 T L q t u → post 1) (h0 : ¬ pd_E T L q m t u → ¬ pd_E1 T L q t u → post 0) :
    ∀ d j (r : Int32), j + d = L → (∀ l, l < j → ¬ (m l t ≠ 0 ∧ q l u ≠ 0 ∧ q l u < q l t)) → ((r = 1 ∧ ∃ l, l < j ∧ q l u ≠ 0 ∧ q l u < q l t) ∨ (r = 0 ∧ ∀ l, l < j → ¬ (q l u ≠ 0 ∧ q l u < q l t))) →
      wY_waitsFor_28 post (nI t) (nI u) (nI T) (nI L) (nI S) n (pd_yv q) (pd_y m) s pr vl rc (d + 1) r (nI j) := by
  intro d
  induction d with
  | zero =>
    intro j r hj hn hr
    have e : j = L := by omega
    subst e
    refine br_t (nI_le (Nat.le_refl _) (by omega)) ?_
    have nE : ¬ pd_E T j q m t u := fun ⟨_, _, l, hl, y⟩ => hn l hl y
    rcases hr with ⟨e, l, hl, y⟩ | ⟨e, y⟩
    · rw [e]; exact h1 nE ⟨ht, hu, l, hl, y⟩
    · rw [e]; exact h0 nE (fun ⟨_, _, l, hl, z⟩ => y l hl z)
  | succ d ih =>
    intro j r hj hn hr
    have bu := hb j u
    have bt' := hb j t
    have hjL : j < L := by omega
    refine br_f (nI_ge (by omega) (by omega)) ?_
    rw [pd_ix12 j u, pd_ix12 j t, nI_clamp (n := u * 12 + j) (by omega), nI_clamp (n := t * 12 + j) (by omega), pd_yv_at q (t := u) (by omega), pd_yv_at q (t := t) (by omega), pd_y_at m (by omega)]
    have iu : vp_in (nI (u * 12 + j)) 96 := vp_in_nI (by omega) (by decide)
    have it : vp_in (nI (t * 12 + j)) 96 := vp_in_nI (by omega) (by decide)
    refine ⟨iu, nm_e ?_⟩
    have keep : ¬ (q j u ≠ 0 ∧ q j u < q j t) → wY_waitsFor_28 post (nI t) (nI u) (nI T) (nI L) (nI S) n (pd_yv q) (pd_y m) s pr vl rc (d + 1) r (nI (j + 1)) := fun c => by
      refine ih (j + 1) r (by omega) (fun l hl y => ?_) ?_
      · by_cases z : l = j
        · rw [z] at y; exact c y.2
        · exact hn l (by omega) y
      · rcases hr with ⟨e, l, hl, y⟩ | ⟨e, y⟩
        · exact Or.inl ⟨e, l, by omega, y⟩
        · refine Or.inr ⟨e, fun l hl w => ?_⟩
          by_cases z : l = j
          · rw [z] at w; exact c w
          · exact y l (by omega) w
    by_cases z : q j u = 0
    · exact br_t ((pd_v_none _ bu).mpr z) (nm_r (nI_1 _) (keep (fun y => y.1 z)))
    · refine br_f (fun y => z ((pd_v_none _ bu).mp y)) ⟨it, ?_⟩
      by_cases g : q j u < q j t
      · refine br_f (fun y => ((pd_v_le _ bt' _ bu).mp y) g) ⟨it, ?_⟩
        by_cases w : m j t = 0
        · refine br_t w (nm_r (nI_1 _) (ih (j + 1) 1 (by omega) (fun l hl y => ?_) (Or.inl ⟨rfl, j, by omega, z, g⟩)))
          by_cases e : l = j
          · rw [e] at y; exact y.1 w
          · exact hn l (by omega) y
        · exact br_f w (h2 ⟨ht, hu, j, hjL, w, z, g⟩)
      · exact br_t ((pd_v_le _ bt' _ bu).mpr g) (nm_r (nI_1 _) (keep (fun y => g y.2)))
theorem yw_waits {T L S : Nat} {n : Int32} {s pr vl rc : Nat → Int32} {q : Nat → Nat → Nat} {m : Nat → Nat → Int32} {post : Int32 → Prop} {t u : Nat} (hT : T ≤ 8) (hL : L ≤ 12) (hb : ∀ a b, q a b < 16) (ht : t < T) (hu : u < T)
    (h2 : pd_E T L q m t u → post 2) (h1 : ¬ pd_E T L q m t u → pd_E1 T L q t u → post 1) (h0 : ¬ pd_E T L q m t u → ¬ pd_E1 T L q t u → post 0) : wpY_waitsFor post (nI T, nI L, nI S, n, pd_yv q, pd_y m, s, pr, vl, rc) (nI t) (nI u) := by
  unfold wpY_waitsFor
  dsimp only
  refine yw_isT_t hT ht (br_f (by decide) (yw_isT_t hT hu (br_f (by decide) ?_)))
  by_cases e : t = u
  · refine br_t (by rw [e]) (h0 ?_ ?_)
    · intro ⟨_, _, l, _, _, _, y⟩
      rw [e] at y; omega
    · intro ⟨_, _, l, _, _, y⟩
      rw [e] at y; omega
  · exact br_f (fun z => e ((nI_eq (by omega) (by omega)).mp z)) ⟨L + 1, yw_waits_l hT hL hb ht hu h2 h1 h0 L 0 0 (by omega) (fun l hl => by omega) (Or.inr ⟨rfl, fun l hl => by omega⟩)⟩
