/-! the holder t of l leaves: nobody is next, or n is -/
theorem pd_h_none {T L : Nat} {q : Nat → Nat → Nat} {m : Nat → Nat → Int32} {s : Nat → Int32} {l t : Nat} (h : pd_G T L q m s) (hl : l < L) (ht : t < T) (e : q l t = 1) (hn : ∀ u, u < T → q l u ≠ 2) :
    pd_p (pd_rem T q l t) = pd_p q ∧ pd_mrem T q m l t = m := by
  have hQ := h.1 l hl
  have h1 : ∀ u, u < T → q l u ≤ 1 := fun u hu => by
    apply Nat.le_of_not_lt
    intro g
    have := hQ.1 u hu
    obtain ⟨v, hv, ev⟩ := hQ.2.1 2 (by omega) (by omega)
    exact hn v hv ev
  constructor
  · funext a b
    show pd_rem T q l t a b - 1 = q a b - 1
    by_cases z : a = l
    · rw [z]
      by_cases y : b = t
      · rw [y, pd_rem_t, e] <;> rfl
      · have w : ¬ (b < T ∧ q l t < q l b) := fun c => by have := h1 b c.1; omega
        rw [pd_rem_le _ _ _ _ y w]
    · rw [pd_rem_ne _ _ _ _ _ z]
  · funext a b
    refine pd_if3 (c := a = l ∧ (b = t ∨ (b < T ∧ q l t < q l b ∧ q l b = 2))) (fun c => ?_)
    rcases c.2 with y | y
    · rw [c.1, y]
      by_cases w : m l t = 0
      · exact w.symm
      · have := h.2.1 l t hl ht w; omega
    · exact absurd y.2.2 (hn b y.1)
theorem pd_h_next {T L : Nat} {q : Nat → Nat → Nat} {m : Nat → Nat → Int32} {s : Nat → Int32} {l t n : Nat} (h : pd_G T L q m s) (hl : l < L) (ht : t < T) (e : q l t = 1) (hn : n < T) (en : q l n = 2) :
    pd_p (pd_rem T q l t) = pd_rem T (pd_p q) l n ∧ pd_mrem T q m l t = pd_set m l n 0 := by
  have hQ := h.1 l hl
  have ntn : t ≠ n := fun z => by rw [z] at e; omega
  have i1 : ∀ u, u < T → q l u = 1 → u = t := fun u hu z => hQ.2.2 u t hu ht (by omega) (by omega)
  have i2 : ∀ u, u < T → q l u = 2 → u = n := fun u hu z => hQ.2.2 u n hu hn (by omega) (by omega)
  constructor
  · funext a b
    show pd_rem T q l t a b - 1 = pd_rem T (pd_p q) l n a b
    by_cases z : a = l
    · rw [z]
      by_cases y : b = n
      · rw [y, pd_rem_t T (pd_p q) l n, pd_rem_gt T q l t hn (by omega), en] <;> rfl
      · by_cases hb : b < T
        · by_cases g : 1 < q l b
          · have : q l b ≠ 2 := fun c => y (i2 b hb c)
            have g' : pd_p q l n < pd_p q l b := by show q l n - 1 < q l b - 1; omega
            rw [pd_rem_gt T q l t hb (by omega), pd_rem_gt T (pd_p q) l n hb g'] <;> rfl
          · have g' : ¬ (b < T ∧ pd_p q l n < pd_p q l b) := by show ¬ (b < T ∧ q l n - 1 < q l b - 1); omega
            rw [pd_rem_le T (pd_p q) l n y g']
            show pd_rem T q l t l b - 1 = q l b - 1
            by_cases yt : b = t
            · rw [yt, pd_rem_t, e] <;> rfl
            · rw [pd_rem_le T q l t yt (by omega)]
        · have yt : b ≠ t := by omega
          have w1 : ¬ (b < T ∧ q l t < q l b) := fun c => hb c.1
          have w2 : ¬ (b < T ∧ pd_p q l n < pd_p q l b) := fun c => hb c.1
          rw [pd_rem_le T q l t yt w1, pd_rem_le T (pd_p q) l n y w2] <;> rfl
    · rw [pd_rem_ne T q l t b z, pd_rem_ne T (pd_p q) l n b z] <;> rfl
  · funext a b
    show (if a = l ∧ (b = t ∨ (b < T ∧ q l t < q l b ∧ q l b = 2)) then 0 else m a b) = (if a = l ∧ b = n then 0 else m a b)
    by_cases yt : a = l ∧ b = t
    · have w1 : a = l ∧ (b = t ∨ (b < T ∧ q l t < q l b ∧ q l b = 2)) := ⟨yt.1, Or.inl yt.2⟩
      have w2 : ¬ (a = l ∧ b = n) := fun c => ntn (yt.2.symm.trans c.2)
      rw [if_pos w1, if_neg w2, yt.1, yt.2]
      by_cases w : m l t = 0
      · exact w.symm
      · have := h.2.1 l t hl ht w; omega
    · refine pd_if1 ⟨fun c => ⟨c.1, ?_⟩, fun c => ⟨c.1, Or.inr ?_⟩⟩
      · rcases c.2 with w | w
        · exact absurd ⟨c.1, w⟩ yt
        · exact i2 b w.1 w.2.2
      · rw [c.2]
        exact ⟨hn, by omega, en⟩
theorem pd_h_W {T L : Nat} {q : Nat → Nat → Nat} {l t u : Nat} (hu : u < T) (e : q l t = 1) (n : q l u ≠ 2) : pd_W L (pd_rem T q l t) u ↔ pd_W L q u := by
  have key : ∀ a, 2 ≤ pd_rem T q l t a u ↔ 2 ≤ q a u := fun a => by
    by_cases z : a = l
    · rw [z]
      by_cases g : q l t < q l u
      · rw [pd_rem_gt _ _ _ _ hu g]; omega
      · by_cases y : u = t
        · rw [y, pd_rem_t]; omega
        · rw [pd_rem_le _ _ _ _ y (by omega)]
    · rw [pd_rem_ne _ _ _ _ _ z]
  exact ⟨fun ⟨a, h1, h2⟩ => ⟨a, h1, (key a).mp h2⟩, fun ⟨a, h1, h2⟩ => ⟨a, h1, (key a).mpr h2⟩⟩
theorem pd_h_1 {T : Nat} {q : Nat → Nat → Nat} {l t u : Nat} (hu : u < T) (e : q l t = 1) : pd_rem T q l t l u = 1 → q l u = 2 ∨ (q l u = 1 ∧ u ≠ t) := fun h => by
  by_cases g : q l t < q l u
  · rw [pd_rem_gt _ _ _ _ hu g] at h; omega
  · by_cases y : u = t
    · rw [y, pd_rem_t] at h; omega
    · rw [pd_rem_le _ _ _ _ y (by omega)] at h; omega
theorem pd_R_hold0 {x T L : Nat} {q : Nat → Nat → Nat} {m : Nat → Nat → Int32} {s st hd : Nat → Int32} {l t : Nat} (h : pd_R x T L q m s st hd) (hl : l < L) (ht : t < T) (e : q l t = 1) (hn : ∀ u, u < T → q l u ≠ 2) :
    pd_R x T L (pd_rem T q l t) m s st (upd hd l (-1)) := by
  have hQ := h.1.1 l hl
  refine ⟨(pd_h_none h.1 hl ht e hn).2 ▸ pd_G_rem h.1 hl ht (by omega), fun a ha => ?_, fun u hu n => pd_S_eqv (pd_h_W hu e (hn u hu)) (h.2.2 u hu n)⟩
  by_cases z : a = l
  · rw [z]
    refine ⟨fun u hu e1 => ?_, fun _ => pk_us⟩
    rcases pd_h_1 hu e e1 with c | c
    · exact absurd c (hn u hu)
    · exact absurd (hQ.2.2 u t hu ht (by omega) (by omega)) c.2
  · have H := h.2.1 a ha
    refine ⟨fun u hu e1 => ?_, fun H1 => ?_⟩
    · rw [pk_un z]
      rw [pd_rem_ne _ _ _ _ _ z] at e1
      exact H.1 u hu e1
    · rw [pk_un z]
      exact H.2 (fun u hu e1 => H1 u hu (by rw [pd_rem_ne _ _ _ _ _ z]; exact e1))
theorem pd_R_hold1 {x T L : Nat} {q : Nat → Nat → Nat} {m : Nat → Nat → Int32} {s st st' hd : Nat → Int32} {l t n : Nat} (h : pd_R x T L q m s st hd) (hl : l < L) (ht : t < T) (e : q l t = 1) (hn : n < T) (en : q l n = 2) (nx : n ≠ x)
    (w1 : pd_W L (pd_rem T q l t) n → st' = st) (w0 : ¬ pd_W L (pd_rem T q l t) n → st' = upd st n 1) :
    pd_R x T L (pd_rem T q l t) (pd_set m l n 0) s st' (upd hd l (nI n)) := by
  have hQ := h.1.1 l hl
  have i2 : ∀ u, u < T → q l u = 2 → u = n := fun u hu z => hQ.2.2 u n hu hn (by omega) (by omega)
  refine ⟨(pd_h_next h.1 hl ht e hn en).2 ▸ pd_G_rem h.1 hl ht (by omega), fun a ha => ?_, fun u hu ne => ?_⟩
  · by_cases z : a = l
    · rw [z]
      refine ⟨fun u hu e1 => ?_, fun H1 => ?_⟩
      · rw [pk_us]
        rcases pd_h_1 hu e e1 with c | c
        · rw [i2 u hu c]
        · exact absurd (hQ.2.2 u t hu ht (by omega) (by omega)) c.2
      · exact absurd (by rw [pd_rem_gt _ _ _ _ hn (by omega), en]) (H1 n hn)
    · have H := h.2.1 a ha
      refine ⟨fun u hu e1 => ?_, fun H1 => ?_⟩
      · rw [pk_un z]
        rw [pd_rem_ne _ _ _ _ _ z] at e1
        exact H.1 u hu e1
      · rw [pk_un z]
        exact H.2 (fun u hu e1 => H1 u hu (by rw [pd_rem_ne _ _ _ _ _ z]; exact e1))
  · by_cases y : u = n
    · rw [y]
      have hs : s n = 1 := h.1.2.2.1 l n hl hn (by omega)
      have hS := h.2.2 n hn nx
      refine ⟨hS.1, fun _ w => ?_, fun _ w => ?_, fun z => absurd hs z⟩
      · rw [w1 w]
        exact hS.2.1 hs ⟨l, hl, by omega⟩
      · rw [w0 w]
        exact pk_us
    · have hS := pd_S_eqv (pd_h_W (L := L) hu e (fun c => y (i2 u hu c))) (h.2.2 u hu ne)
      by_cases w : pd_W L (pd_rem T q l t) n
      · rw [w1 w]; exact hS
      · rw [w0 w]
        unfold pd_S
        rw [pk_un y]
        exact hS
/-! t withdraws from l: its state anew -/
theorem pd_R_with {T L : Nat} {q : Nat → Nat → Nat} {m : Nat → Nat → Int32} {s st st' hd : Nat → Int32} {l t : Nat} (hT : T ≤ 8) (h : pd_R 8 T L q m s st hd) (hl : l < L) (ht : t < T) (e : 2 ≤ q l t)
    (w1 : pd_W L (pd_rem T q l t) t → st' = st) (w0 : ¬ pd_W L (pd_rem T q l t) t → st' = upd st t 1) :
    pd_R 8 T L (pd_rem T q l t) (pd_set m l t 0) s st' hd := by
  have h1 := pd_R_queued (pd_R_any t hT h) hl ht e
  have hs : s t = 1 := h.1.2.2.1 l t hl ht (by omega)
  have hS := h.2.2 t ht (by omega)
  refine ⟨h1.1, h1.2.1, fun u hu _ => ?_⟩
  by_cases y : u = t
  · rw [y]
    refine ⟨hS.1, fun _ w => ?_, fun _ w => ?_, fun z => absurd hs z⟩
    · rw [w1 w]
      exact hS.2.1 hs ⟨l, hl, e⟩
    · rw [w0 w]
      exact pk_us
  · have h2 := h1.2.2 u hu y
    by_cases w : pd_W L (pd_rem T q l t) t
    · rw [w1 w]; exact h2
    · rw [w0 w]
      unfold pd_S
      rw [pk_un y]
      exact h2
/-! begin, end, request, marks -/
theorem pd_R_begin {T L : Nat} {q : Nat → Nat → Nat} {m : Nat → Nat → Int32} {s st hd : Nat → Int32} {t : Nat} (h : pd_R 8 T L q m s st hd) (ht : t < T) (e : s t ≠ 1) :
    pd_R 8 T L q m (upd s t 1) (upd st t 1) hd := by
  have hz : ∀ l, l < L → q l t = 0 := fun l hl => Classical.byContradiction (fun c => e (h.1.2.2.1 l t hl ht c))
  refine ⟨⟨h.1.1, h.1.2.1, fun l u hl hu c => ?_, h.1.2.2.2⟩, h.2.1, fun u hu n => ?_⟩
  · by_cases y : u = t
    · rw [y]; exact pk_us
    · rw [pk_un y]; exact h.1.2.2.1 l u hl hu c
  · by_cases y : u = t
    · rw [y]
      exact ⟨Or.inr (Or.inl pk_us), fun _ ⟨l, hl, c⟩ => absurd (hz l hl) (by omega), fun _ _ => pk_us, fun c => absurd pk_us c⟩
    · unfold pd_S
      rw [pk_un y, pk_un y]
      exact h.2.2 u hu n
theorem pd_R_end {T L : Nat} {q : Nat → Nat → Nat} {m : Nat → Nat → Int32} {s st hd : Nat → Int32} {t : Nat} {v : Int32} (h : pd_R t T L q m s st hd) (hz : ∀ l, l < L → q l t = 0) (hv : v = 0 ∨ v = 3) :
    pd_R 8 T L q m (upd s t v) (upd st t v) hd := by
  refine ⟨⟨h.1.1, h.1.2.1, fun l u hl hu c => ?_, h.1.2.2.2⟩, h.2.1, fun u hu _ => ?_⟩
  · by_cases y : u = t
    · rw [y] at c; exact absurd (hz l hl) c
    · rw [pk_un y]; exact h.1.2.2.1 l u hl hu c
  · by_cases y : u = t
    · rw [y]
      unfold pd_S
      rw [pk_us, pk_us]
      have v1 : v ≠ 1 := by rcases hv with z | z <;> rw [z] <;> decide
      exact ⟨hv.elim Or.inl (fun z => Or.inr (Or.inr z)), fun c => absurd c v1, fun c => absurd c v1, fun _ => rfl⟩
    · unfold pd_S
      rw [pk_un y, pk_un y]
      exact h.2.2 u hu y
theorem pd_G_set {T L : Nat} {q : Nat → Nat → Nat} {m : Nat → Nat → Int32} {s : Nat → Int32} {l t : Nat} (hT : T ≤ 8) (h : pd_G T L q m s) (hl : l < L) (ht : t < T) (e : q l t = 0) (hs : s t = 1) :
    pd_G T L (pd_set q l t (pd_n T (q l) + 1)) m s := by
  refine ⟨fun a ha => ?_, fun a b ha hb hm => ?_, fun a b ha hb hn => ?_, fun a b => ?_⟩
  · by_cases z : a = l
    · rw [z]
      exact pd_Q_add (h.1 l hl) ht e _ (pd_set_at _ _ _ _) (fun b hb => pd_set_ne _ _ _ _ (fun c => hb c.2))
    · have : pd_set q l t (pd_n T (q l) + 1) a = q a := by funext b; exact pd_set_ne _ _ _ _ (fun c => z c.1)
      rw [this]
      exact h.1 a ha
  · have := h.2.1 a b ha hb hm
    rw [pd_set_ne _ _ _ _ (fun c => by rw [c.1, c.2] at this; omega)]
    exact this
  · by_cases c : a = l ∧ b = t
    · rw [c.2]; exact hs
    · rw [pd_set_ne _ _ _ _ c] at hn
      exact h.2.2.1 a b ha hb hn
  · by_cases c : a = l ∧ b = t
    · rw [c.1, c.2, pd_set_at]
      have := pd_n_le T (q l)
      omega
    · rw [pd_set_ne _ _ _ _ c]; exact h.2.2.2 a b
theorem pd_n_0 {T : Nat} {f : Nat → Nat} (hQ : pd_Q T f) (h : ∀ u, u < T → f u ≠ 1) : pd_n T f = 0 := by
  apply Nat.eq_zero_of_not_pos
  intro c
  obtain ⟨u, hu, e⟩ := hQ.2.1 1 (by omega) c
  exact h u hu e
theorem pd_R_grant {T L : Nat} {q : Nat → Nat → Nat} {m : Nat → Nat → Int32} {s st hd : Nat → Int32} {l t : Nat} (hT : T ≤ 8) (h : pd_R 8 T L q m s st hd) (hl : l < L) (ht : t < T) (e : q l t = 0) (hs : s t = 1) (hn : ∀ u, u < T → q l u ≠ 1) :
    pd_R 8 T L (pd_set q l t 1) m s st (upd hd l (nI t)) := by
  have n0 := pd_n_0 (h.1.1 l hl) hn
  have hG := pd_G_set hT h.1 hl ht e hs
  rw [n0] at hG
  refine ⟨hG, fun a ha => ?_, fun u hu n => pd_S_eqv ?_ (h.2.2 u hu n)⟩
  · by_cases z : a = l
    · rw [z]
      refine ⟨fun u hu e1 => ?_, fun H1 => absurd (pd_set_at _ _ _ _) (H1 t ht)⟩
      rw [pk_us]
      by_cases y : u = t
      · rw [y]
      · rw [pd_set_ne _ _ _ _ (fun c => y c.2)] at e1
        exact absurd e1 (hn u hu)
    · have H := h.2.1 a ha
      refine ⟨fun u hu e1 => ?_, fun H1 => ?_⟩
      · rw [pk_un z]
        rw [pd_set_ne _ _ _ _ (fun c => z c.1)] at e1
        exact H.1 u hu e1
      · rw [pk_un z]
        exact H.2 (fun u hu e1 => H1 u hu (by rw [pd_set_ne _ _ _ _ (fun c => z c.1)]; exact e1))
  · have key : ∀ a, 2 ≤ pd_set q l t 1 a u ↔ 2 ≤ q a u := fun a => by
      by_cases c : a = l ∧ u = t
      · rw [c.1, c.2, pd_set_at]; omega
      · rw [pd_set_ne _ _ _ _ c]
    exact ⟨fun ⟨a, h1, h2⟩ => ⟨a, h1, (key a).mp h2⟩, fun ⟨a, h1, h2⟩ => ⟨a, h1, (key a).mpr h2⟩⟩
theorem pd_R_queue {T L : Nat} {q : Nat → Nat → Nat} {m : Nat → Nat → Int32} {s st hd : Nat → Int32} {l t : Nat} (hT : T ≤ 8) (h : pd_R 8 T L q m s st hd) (hl : l < L) (ht : t < T) (e : q l t = 0) (hs : s t = 1) (n1 : 1 ≤ pd_n T (q l)) :
    pd_R 8 T L (pd_set q l t (pd_n T (q l) + 1)) m s (upd st t 2) hd := by
  refine ⟨pd_G_set hT h.1 hl ht e hs, fun a ha => ?_, fun u hu n => ?_⟩
  · have H := h.2.1 a ha
    have key : ∀ u, u < T → (pd_set q l t (pd_n T (q l) + 1) a u = 1 ↔ q a u = 1) := fun u hu => by
      by_cases c : a = l ∧ u = t
      · rw [c.1, c.2, pd_set_at]; omega
      · rw [pd_set_ne _ _ _ _ c]
    exact ⟨fun u hu e1 => H.1 u hu ((key u hu).mp e1), fun H1 => H.2 (fun u hu e1 => H1 u hu ((key u hu).mpr e1))⟩
  · by_cases y : u = t
    · rw [y]
      have w : pd_W L (pd_set q l t (pd_n T (q l) + 1)) t := ⟨l, hl, by rw [pd_set_at]; omega⟩
      exact ⟨Or.inr (Or.inl hs), fun _ _ => pk_us, fun _ c => absurd w c, fun c => absurd hs c⟩
    · have key : ∀ a, 2 ≤ pd_set q l t (pd_n T (q l) + 1) a u ↔ 2 ≤ q a u := fun a => by rw [pd_set_ne _ _ _ _ (fun c => y c.2)]
      have w : pd_W L (pd_set q l t (pd_n T (q l) + 1)) u ↔ pd_W L q u := ⟨fun ⟨a, h1, h2⟩ => ⟨a, h1, (key a).mp h2⟩, fun ⟨a, h1, h2⟩ => ⟨a, h1, (key a).mpr h2⟩⟩
      have hS := pd_S_eqv w (h.2.2 u hu n)
      unfold pd_S
      rw [pk_un y]
      exact hS
theorem pd_R_mark {x T L : Nat} {q : Nat → Nat → Nat} {m m' : Nat → Nat → Int32} {s st hd : Nat → Int32} (h : pd_R x T L q m s st hd) (hm : ∀ l t, m' l t ≠ 0 → m l t ≠ 0 ∨ 2 ≤ q l t) : pd_R x T L q m' s st hd :=
  ⟨⟨h.1.1, fun l t hl ht c => (hm l t c).elim (fun y => h.1.2.1 l t hl ht y) (fun y => y), h.1.2.2.1, h.1.2.2.2⟩, h.2.1, h.2.2⟩
/-! edges -/
def pd_E (T L : Nat) (q : Nat → Nat → Nat) (m : Nat → Nat → Int32) (a b : Nat) : Prop := a < T ∧ b < T ∧ ∃ l, l < L ∧ m l a ≠ 0 ∧ q l b ≠ 0 ∧ q l b < q l a
def pd_E1 (T L : Nat) (q : Nat → Nat → Nat) (a b : Nat) : Prop := a < T ∧ b < T ∧ ∃ l, l < L ∧ q l b ≠ 0 ∧ q l b < q l a
theorem pd_E_lt (T L : Nat) (q : Nat → Nat → Nat) (m : Nat → Nat → Int32) (a b : Nat) (h : pd_E T L q m a b) : b < T := h.2.1
theorem pd_E_live {T L : Nat} {q : Nat → Nat → Nat} {m : Nat → Nat → Int32} {s : Nat → Int32} (h : pd_G T L q m s) {a b : Nat} (e : pd_E T L q m a b) : s a = 1 ∧ s b = 1 := by
  obtain ⟨ha, hb, l, hl, _, h2, h3⟩ := e
  exact ⟨h.2.2.1 l a hl ha (by omega), h.2.2.1 l b hl hb h2⟩
/-- who is reached is live, within P, and so is where it began -/
theorem pd_RC_live {T L : Nat} {q : Nat → Nat → Nat} {m : Nat → Nat → Int32} {s : Nat → Int32} {P : Nat → Prop} (h : pd_G T L q m s) {t u : Nat} (e : pd_RC (pd_E T L q m) P t u) : s t = 1 ∧ s u = 1 ∧ P u ∧ u < T :=
  e (fun x => s t = 1 ∧ s x = 1 ∧ P x ∧ x < T) ⟨fun x hx px => ⟨(pd_E_live h hx).1, (pd_E_live h hx).2, px, hx.2.1⟩, fun _ x hw hx px => ⟨hw.1, (pd_E_live h hx).2, px, hx.2.1⟩⟩
/-! the lowest -/
def pd_lt (pr : Nat → Int32) (a b : Nat) : Prop := pr a < pr b ∨ (pr a = pr b ∧ a < b)
noncomputable def pd_low (C : Nat → Prop) (pr : Nat → Int32) : Nat → Int32
  | 0 => -1
  | n + 1 => @ite Int32 (C n ∧ (pd_low C pr n = -1 ∨ pd_lt pr n (pd_low C pr n).toNatClampNeg)) (Classical.propDecidable _) (nI n) (pd_low C pr n)
theorem pd_low_t {C : Nat → Prop} {pr : Nat → Int32} {n : Nat} (h : C n ∧ (pd_low C pr n = -1 ∨ pd_lt pr n (pd_low C pr n).toNatClampNeg)) : pd_low C pr (n + 1) = nI n := by
  rw [pd_low]
  exact if_pos h
theorem pd_low_f {C : Nat → Prop} {pr : Nat → Int32} {n : Nat} (h : ¬ (C n ∧ (pd_low C pr n = -1 ∨ pd_lt pr n (pd_low C pr n).toNatClampNeg))) : pd_low C pr (n + 1) = pd_low C pr n := by
  rw [pd_low]
  exact if_neg h
theorem pd_low_is (C : Nat → Prop) (pr : Nat → Int32) : ∀ n, n ≤ 8 → (pd_low C pr n = -1 ∧ ∀ t, t < n → ¬ C t) ∨ (∃ a, a < n ∧ pd_low C pr n = nI a ∧ C a) := by
  intro n
  induction n with
  | zero => intro _; exact Or.inl ⟨rfl, fun t ht => by omega⟩
  | succ n ih =>
    intro hn
    by_cases h : C n ∧ (pd_low C pr n = -1 ∨ pd_lt pr n (pd_low C pr n).toNatClampNeg)
    · exact Or.inr ⟨n, by omega, pd_low_t h, h.1⟩
    · rw [pd_low_f h]
      rcases ih (by omega) with ⟨e, c⟩ | ⟨a, ha, e, c⟩
      · refine Or.inl ⟨e, fun t ht => ?_⟩
        by_cases y : t = n
        · rw [y]; exact fun z => h ⟨z, Or.inl e⟩
        · exact c t (by omega)
      · exact Or.inr ⟨a, by omega, e, c⟩
