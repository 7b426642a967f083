/-! tables of locks and transactions, and one lock's queue with its holder: place 0 none, 1 the holder, 2 the first in the queue -/
theorem pd_if1 {α : Type} {c d : Prop} [Decidable c] [Decidable d] {x y : α} (h : c ↔ d) : (if c then x else y) = (if d then x else y) := by
  by_cases z : c
  · have w : d := h.mp z
    rw [if_pos z, if_pos w]
  · have w : ¬ d := fun k => z (h.mpr k)
    rw [if_neg z, if_neg w]
theorem pd_if2 {α : Type} {c d e : Prop} [Decidable c] [Decidable d] [Decidable e] {x y : α} (h : (c ∨ d) ↔ e) : (if c then x else if d then x else y) = (if e then x else y) := by
  by_cases z : c
  · have w : e := h.mp (Or.inl z)
    rw [if_pos z, if_pos w]
  · rw [if_neg z]
    by_cases k : d
    · have w : e := h.mp (Or.inr k)
      rw [if_pos k, if_pos w]
    · have w : ¬ e := fun j => (h.mpr j).elim z k
      rw [if_neg k, if_neg w]
theorem pd_if3 {α : Type} {c : Prop} [Decidable c] {x y : α} (h : c → x = y) : (if c then x else y) = y := by
  by_cases z : c
  · rw [if_pos z, h z]
  · rw [if_neg z]
def pd_set {α : Type} (q : Nat → Nat → α) (l t : Nat) (k : α) : Nat → Nat → α := fun a b => if a = l ∧ b = t then k else q a b
def pd_x (m : Nat → Nat → Int32) : Nat → Int32 := fun c => m (c / 8) (c % 8)
def pd_y (m : Nat → Nat → Int32) : Nat → Int32 := fun c => m (c % 12) (c / 12)
theorem pd_x_at (m : Nat → Nat → Int32) {l t : Nat} (ht : t < 8) : pd_x m (l * 8 + t) = m l t := by
  unfold pd_x
  rw [show (l * 8 + t) / 8 = l by omega, show (l * 8 + t) % 8 = t by omega]
theorem pd_y_at (m : Nat → Nat → Int32) {l t : Nat} (hl : l < 12) : pd_y m (t * 12 + l) = m l t := by
  unfold pd_y
  rw [show (t * 12 + l) / 12 = t by omega, show (t * 12 + l) % 12 = l by omega]
theorem pd_x_upd (m : Nat → Nat → Int32) {l t : Nat} (ht : t < 8) (v : Int32) : upd (pd_x m) (l * 8 + t) v = pd_x (pd_set m l t v) := by
  funext c
  show (if c = l * 8 + t then v else m (c / 8) (c % 8)) = (if c / 8 = l ∧ c % 8 = t then v else m (c / 8) (c % 8))
  by_cases h : c = l * 8 + t
  · rw [if_pos h, if_pos (by omega : c / 8 = l ∧ c % 8 = t)]
  · rw [if_neg h, if_neg (by omega : ¬ (c / 8 = l ∧ c % 8 = t))]
theorem pd_y_upd (m : Nat → Nat → Int32) {l t : Nat} (hl : l < 12) (v : Int32) : upd (pd_y m) (t * 12 + l) v = pd_y (pd_set m l t v) := by
  funext c
  show (if c = t * 12 + l then v else m (c % 12) (c / 12)) = (if c % 12 = l ∧ c / 12 = t then v else m (c % 12) (c / 12))
  by_cases h : c = t * 12 + l
  · rw [if_pos h, if_pos (by omega : c % 12 = l ∧ c / 12 = t)]
  · rw [if_neg h, if_neg (by omega : ¬ (c % 12 = l ∧ c / 12 = t))]
theorem pd_set_of (g : Nat → Int32) (q : Nat → Nat → Nat) (l t k : Nat) : pd_set (fun a b => g (q a b)) l t (g k) = fun a b => g (pd_set q l t k a b) := by
  funext a b
  show (if a = l ∧ b = t then g k else g (q a b)) = g (if a = l ∧ b = t then k else q a b)
  by_cases h : a = l ∧ b = t
  · rw [if_pos h, if_pos h]
  · rw [if_neg h, if_neg h]
theorem pd_set_at {α : Type} (q : Nat → Nat → α) (l t : Nat) (k : α) : pd_set q l t k l t = k := if_pos ⟨rfl, rfl⟩
theorem pd_set_ne {α : Type} (q : Nat → Nat → α) (l t : Nat) (k : α) {a b : Nat} (h : ¬ (a = l ∧ b = t)) : pd_set q l t k a b = q a b := if_neg h
theorem pd_set_id {α : Type} (q : Nat → Nat → α) (l t : Nat) (k : α) (h : q l t = k) : pd_set q l t k = q := by
  funext a b
  show (if a = l ∧ b = t then k else q a b) = q a b
  by_cases e : a = l ∧ b = t
  · rw [if_pos e, e.1, e.2, h]
  · rw [if_neg e]
/-- t taken out of the queue of l, all behind it moved up; of the transactions below j -/
def pd_rem (j : Nat) (q : Nat → Nat → Nat) (l t : Nat) : Nat → Nat → Nat :=
  fun a b => if a = l then (if b = t then 0 else if b < j ∧ q l t < q l b then q l b - 1 else q l b) else q a b
theorem pd_rem_ne (j : Nat) (q : Nat → Nat → Nat) (l t : Nat) {a : Nat} (b : Nat) (h : a ≠ l) : pd_rem j q l t a b = q a b := if_neg h
theorem pd_rem_t (j : Nat) (q : Nat → Nat → Nat) (l t : Nat) : pd_rem j q l t l t = 0 := by
  unfold pd_rem
  rw [if_pos rfl, if_pos rfl]
theorem pd_rem_gt (j : Nat) (q : Nat → Nat → Nat) (l t : Nat) {b : Nat} (hj : b < j) (h : q l t < q l b) : pd_rem j q l t l b = q l b - 1 := by
  unfold pd_rem
  have hb : b ≠ t := fun e => by rw [e] at h; omega
  rw [if_pos rfl, if_neg hb, if_pos ⟨hj, h⟩]
theorem pd_rem_le (j : Nat) (q : Nat → Nat → Nat) (l t : Nat) {b : Nat} (hb : b ≠ t) (h : ¬ (b < j ∧ q l t < q l b)) : pd_rem j q l t l b = q l b := by
  unfold pd_rem
  rw [if_pos rfl, if_neg hb, if_neg h]
theorem pd_rem_row (j : Nat) (q : Nat → Nat → Nat) (l t : Nat) : pd_rem j q l t l = fun b => if b = t then 0 else if b < j ∧ q l t < q l b then q l b - 1 else q l b := by
  funext b
  exact if_pos rfl
theorem pd_rem_rows (j : Nat) (q : Nat → Nat → Nat) (l t : Nat) {a : Nat} (h : a ≠ l) : pd_rem j q l t a = q a := by
  funext b
  exact if_neg h
theorem pd_rem_0 (q : Nat → Nat → Nat) (l t : Nat) : pd_set q l t 0 = pd_rem 0 q l t := by
  funext a b
  by_cases ha : a = l
  · by_cases hb : b = t
    · rw [ha, hb, pd_set_at, pd_rem_t]
    · have z : ¬ (a = l ∧ b = t) := fun z => hb z.2
      rw [pd_set_ne _ _ _ _ z, ha, pd_rem_le _ _ _ _ hb (by omega)]
  · have z : ¬ (a = l ∧ b = t) := fun z => ha z.1
    rw [pd_set_ne _ _ _ _ z, pd_rem_ne _ _ _ _ _ ha]
theorem pd_rem_j (q : Nat → Nat → Nat) (l t : Nat) (j : Nat) (h : q l t < pd_rem j q l t l j) : j ≠ t ∧ pd_rem j q l t l j = q l j := by
  have hj : j ≠ t := fun e => by rw [e, pd_rem_t] at h; omega
  exact ⟨hj, pd_rem_le _ _ _ _ hj (by omega)⟩
theorem pd_rem_s1 (q : Nat → Nat → Nat) (l t : Nat) (j : Nat) (h : q l t < pd_rem j q l t l j) : pd_set (pd_rem j q l t) l j (pd_rem j q l t l j - 1) = pd_rem (j + 1) q l t := by
  obtain ⟨hj, e⟩ := pd_rem_j q l t j h
  rw [e] at h
  rw [e]
  funext a b
  by_cases ha : a = l
  · by_cases hb : b = j
    · rw [ha, hb, pd_set_at, pd_rem_gt _ _ _ _ (by omega) h]
    · have z : ¬ (a = l ∧ b = j) := fun z => hb z.2
      rw [pd_set_ne _ _ _ _ z, ha]
      by_cases ht : b = t
      · rw [ht, pd_rem_t, pd_rem_t]
      · by_cases hg : b < j ∧ q l t < q l b
        · rw [pd_rem_gt _ _ _ _ hg.1 hg.2, pd_rem_gt _ _ _ _ (by omega) hg.2]
        · rw [pd_rem_le _ _ _ _ ht hg, pd_rem_le _ _ _ _ ht (by omega)]
  · have z : ¬ (a = l ∧ b = j) := fun z => ha z.1
    rw [pd_set_ne _ _ _ _ z, pd_rem_ne _ _ _ _ _ ha, pd_rem_ne _ _ _ _ _ ha]
theorem pd_rem_s0 (q : Nat → Nat → Nat) (l t : Nat) (j : Nat) (h : ¬ q l t < pd_rem j q l t l j) : pd_rem j q l t = pd_rem (j + 1) q l t := by
  funext a b
  by_cases ha : a = l
  · rw [ha]
    by_cases ht : b = t
    · rw [ht, pd_rem_t, pd_rem_t]
    · by_cases hb : b = j
      · subst hb
        have e : pd_rem b q l t l b = q l b := pd_rem_le _ _ _ _ ht (by omega)
        rw [e] at h
        rw [e, pd_rem_le _ _ _ _ ht (by omega)]
      · by_cases hg : b < j ∧ q l t < q l b
        · rw [pd_rem_gt _ _ _ _ hg.1 hg.2, pd_rem_gt _ _ _ _ (by omega) hg.2]
        · rw [pd_rem_le _ _ _ _ ht hg, pd_rem_le _ _ _ _ ht (by omega)]
  · rw [pd_rem_ne _ _ _ _ _ ha, pd_rem_ne _ _ _ _ _ ha]
/-- the marks that the reference takes away when t leaves l -/
def pd_mrem (j : Nat) (q : Nat → Nat → Nat) (m : Nat → Nat → Int32) (l t : Nat) : Nat → Nat → Int32 :=
  fun a b => if a = l ∧ (b = t ∨ (b < j ∧ q l t < q l b ∧ q l b = 2)) then 0 else m a b
theorem pd_mrem_0 (q : Nat → Nat → Nat) (m : Nat → Nat → Int32) (l t : Nat) : pd_set m l t 0 = pd_mrem 0 q m l t := by
  funext a b
  exact pd_if1 (by omega : (a = l ∧ b = t) ↔ (a = l ∧ (b = t ∨ (b < 0 ∧ q l t < q l b ∧ q l b = 2))))
theorem pd_mrem_s1 (q : Nat → Nat → Nat) (m : Nat → Nat → Int32) (l t j : Nat) (h : q l t < q l j) (h2 : q l j = 2) : pd_set (pd_mrem j q m l t) l j 0 = pd_mrem (j + 1) q m l t := by
  funext a b
  have key : (a = l ∧ b = j) ∨ (a = l ∧ (b = t ∨ (b < j ∧ q l t < q l b ∧ q l b = 2))) ↔ (a = l ∧ (b = t ∨ (b < j + 1 ∧ q l t < q l b ∧ q l b = 2))) := by
    by_cases e : b = j
    · subst e; omega
    · omega
  exact pd_if2 key
theorem pd_mrem_s0 (q : Nat → Nat → Nat) (m : Nat → Nat → Int32) (l t j : Nat) (h : ¬ (q l t < q l j ∧ q l j = 2)) : pd_mrem j q m l t = pd_mrem (j + 1) q m l t := by
  funext a b
  have key : (a = l ∧ (b = t ∨ (b < j ∧ q l t < q l b ∧ q l b = 2))) ↔ (a = l ∧ (b = t ∨ (b < j + 1 ∧ q l t < q l b ∧ q l b = 2))) := by
    by_cases e : b = j
    · subst e; omega
    · omega
  exact pd_if1 key
/-- how many have a place -/
def pd_n (T : Nat) (f : Nat → Nat) : Nat := pd_cnt (fun t => decide (f t ≠ 0)) T
/-- the places of one lock are 1 .. n, each once -/
def pd_Q (T : Nat) (f : Nat → Nat) : Prop :=
  (∀ t, t < T → f t ≤ pd_n T f) ∧ (∀ k, 0 < k → k ≤ pd_n T f → ∃ t, t < T ∧ f t = k) ∧ (∀ t u, t < T → u < T → f t = f u → f t ≠ 0 → t = u)
theorem pd_Q_rem {T t : Nat} {f : Nat → Nat} (h : pd_Q T f) (ht : t < T) (hf : f t ≠ 0) (g : Nat → Nat)
    (hg : ∀ b, g b = if b = t then 0 else if b < T ∧ f t < f b then f b - 1 else f b) : pd_Q T g := by
  obtain ⟨ha, hb, hc⟩ := h
  have gt : g t = 0 := by rw [hg, if_pos rfl]
  have g1 : ∀ b, b < T → f t < f b → g b = f b - 1 := fun b hb h => by
    have : b ≠ t := fun e => by rw [e] at h; omega
    rw [hg, if_neg this, if_pos ⟨hb, h⟩]
  have g0 : ∀ b, b ≠ t → ¬ f t < f b → g b = f b := fun b hb h => by
    have w : ¬ (b < T ∧ f t < f b) := fun z => h z.2
    rw [hg, if_neg hb, if_neg w]
  have hn : pd_n T f = pd_n T g + 1 := by
    refine pd_cnt_one _ _ T t ht (by simp [gt]) (by simp [hf]) (fun b hb e => ?_)
    by_cases z : f t < f b
    · have := g1 b hb z
      have e1 : g b ≠ 0 := by omega
      have e2 : f b ≠ 0 := by omega
      simp [e1, e2]
    · show decide (g b ≠ 0) = decide (f b ≠ 0)
      rw [g0 b e z]
  refine ⟨fun b hbT => ?_, fun k k0 kn => ?_, fun b c hbT hcT e e0 => ?_⟩
  · by_cases e : b = t
    · rw [e, gt]; omega
    · by_cases z : f t < f b
      · have := g1 b hbT z
        have := ha b hbT
        omega
      · have e1 := g0 b e z
        have e2 := ha t ht
        by_cases e3 : f b = 0
        · omega
        · have : f b ≠ f t := fun e4 => e (hc b t hbT ht e4 e3)
          omega
  · by_cases z : k < f t
    · obtain ⟨b, hbT, e⟩ := hb k k0 (by have := ha t ht; omega)
      exact ⟨b, hbT, by rw [g0 b (fun e1 => by rw [e1] at e; omega) (by omega)]; exact e⟩
    · obtain ⟨b, hbT, e⟩ := hb (k + 1) (by omega) (by omega)
      exact ⟨b, hbT, by rw [g1 b hbT (by omega)]; omega⟩
  · have nbt : b ≠ t := fun z => by rw [z, gt] at e0; exact e0 rfl
    have ct : c ≠ t := fun z => by rw [z, gt] at e; exact e0 e
    by_cases zb : f t < f b
    · have eb := g1 b hbT zb
      by_cases zc : f t < f c
      · have ec := g1 c hcT zc
        exact hc b c hbT hcT (by omega) (by omega)
      · have ec := g0 c ct zc
        have : f c ≠ f t := fun e4 => ct (hc c t hcT ht e4 (by omega))
        omega
    · have eb := g0 b nbt zb
      have nb : f b ≠ f t := fun e4 => nbt (hc b t hbT ht e4 (by omega))
      by_cases zc : f t < f c
      · have ec := g1 c hcT zc
        omega
      · have ec := g0 c ct zc
        exact hc b c hbT hcT (by omega) (by omega)
theorem pd_Q_add {T t : Nat} {f : Nat → Nat} (h : pd_Q T f) (ht : t < T) (hf : f t = 0) (g : Nat → Nat)
    (gt : g t = pd_n T f + 1) (g0 : ∀ b, b ≠ t → g b = f b) : pd_Q T g := by
  obtain ⟨ha, hb, hc⟩ := h
  have hn : pd_n T g = pd_n T f + 1 := by
    refine pd_cnt_one _ _ T t ht (by simp [hf]) (by simp [gt]) (fun b _ e => ?_)
    show decide (f b ≠ 0) = decide (g b ≠ 0)
    rw [g0 b e]
  refine ⟨fun b hbT => ?_, fun k k0 kn => ?_, fun b c hbT hcT e e0 => ?_⟩
  · by_cases e : b = t
    · rw [e, gt]; omega
    · rw [g0 b e]; have := ha b hbT; omega
  · by_cases z : k = pd_n T f + 1
    · exact ⟨t, ht, by rw [gt, z]⟩
    · obtain ⟨b, hbT, e⟩ := hb k k0 (by omega)
      exact ⟨b, hbT, by rw [g0 b (fun e1 => by rw [e1] at e; omega)]; exact e⟩
  · by_cases zb : b = t
    · by_cases zc : c = t
      · rw [zb, zc]
      · have := ha c hcT
        rw [zb, gt, g0 c zc] at e
        omega
    · by_cases zc : c = t
      · have := ha b hbT
        rw [zc, gt, g0 b zb] at e
        omega
      · rw [g0 b zb] at e e0
        rw [g0 c zc] at e
        exact hc b c hbT hcT e e0
theorem pd_n_le (T : Nat) (f : Nat → Nat) : pd_n T f ≤ T := pd_cnt_le _ _
/-- all but the holder -/
theorem pd_n_tail {T h : Nat} {f : Nat → Nat} (hQ : pd_Q T f) (hh : h < T) (e : f h = 1) : pd_n T f = pd_n T (fun t => f t - 1) + 1 := by
  refine pd_cnt_one _ _ T h hh (by simp [e]) (by simp [e]) (fun b hb n => ?_)
  have : f b ≠ 1 := fun z => n (hQ.2.2 b h hb hh (by omega) (by omega))
  by_cases z : f b = 0
  · simp [z]
  · have e1 : f b - 1 ≠ 0 := by omega
    simp [z, e1]
