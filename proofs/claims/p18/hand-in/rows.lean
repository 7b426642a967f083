section
def bt (x : Int32) (i : Nat) : Bool := x.toBitVec.getLsbD i
theorem b_ext {x y : Int32} (h : ∀ i, i < 32 → bt x i = bt y i) : x = y := Int32.toBitVec_inj.mp (BitVec.eq_of_getLsbD_eq (fun i hi => h i hi))
theorem b_or (x y : Int32) (i : Nat) : bt (x ||| y) i = (bt x i || bt y i) := by unfold bt; rw [Int32.toBitVec_or, BitVec.getLsbD_or]
theorem b_and (x y : Int32) (i : Nat) : bt (x &&& y) i = (bt x i && bt y i) := by unfold bt; rw [Int32.toBitVec_and, BitVec.getLsbD_and]
theorem b_big {x : Int32} {i : Nat} (h : 32 ≤ i) : bt x i = false := BitVec.getLsbD_of_ge _ _ h
theorem b_255 (i : Nat) : bt 255 i = decide (i < 8) := by
  rcases Nat.lt_or_ge i 32 with h | h
  · exact (by decide +kernel : ∀ i, i < 32 → bt 255 i = decide (i < 8)) i h
  · rw [b_big h, decide_eq_false (by omega)]
theorem b_0 (i : Nat) : bt 0 i = false := BitVec.getLsbD_zero
theorem s_l : ∀ n, n < 32 → ((nI n &&& 31).toBitVec.smod 32).toNat = n := by decide +kernel
theorem b_shl (n : Nat) (hn : n < 32) (x : Int32) {i : Nat} (hi : i < 32) : bt (x <<< (nI n &&& 31)) i = (decide (n ≤ i) && bt x (i - n)) := by
  unfold bt
  rw [Int32.toBitVec_shiftLeft]
  show (x.toBitVec <<< ((nI n &&& 31).toBitVec.smod 32).toNat).getLsbD i = _
  rw [s_l n hn, BitVec.getLsbD_shiftLeft]
  rcases Nat.lt_or_ge i n with h | h
  · simp [h, Nat.not_le.mpr h]
  · simp [hi, h, Nat.not_lt.mpr h]
theorem nf_sh : ∀ l, l < 32 → ((1 : Int32) <<< (nI l &&& 31)).toBitVec = BitVec.twoPow 32 l := by decide +kernel
theorem nf_tp : ∀ l, l < 32 → BitVec.twoPow 32 l ≠ 0#32 := by decide +kernel
theorem b_xor (x y : Int32) (i : Nat) : bt (x ^^^ y) i = (bt x i ^^ bt y i) := by unfold bt; rw [Int32.toBitVec_xor, BitVec.getLsbD_xor]
theorem b_m1 : ∀ i, i < 32 → bt (-1) i = true := by decide +kernel
theorem b_sshr (n : Nat) (hn : n < 32) (x : Int32) {i : Nat} (hi : i < 32) : bt (x >>> (nI n &&& 31)) i = if n + i < 32 then bt x (n + i) else bt x 31 := by
  unfold bt
  rw [Int32.toBitVec_shiftRight]
  show (x.toBitVec.sshiftRight ((nI n &&& 31).toBitVec.smod 32).toNat).getLsbD i = _
  rw [s_l n hn, BitVec.getLsbD_sshiftRight, BitVec.msb_eq_getLsbD_last]
  simp [hi]
end
section
/-! counting, and the least closed set -/
def pd_cnt (f : Nat → Bool) : Nat → Nat
  | 0 => 0
  | n + 1 => pd_cnt f n + (if f n = true then 1 else 0)
theorem pd_cnt_le (f : Nat → Bool) : ∀ n, pd_cnt f n ≤ n := by
  intro n
  induction n with
  | zero => exact Nat.le_refl 0
  | succ n ih =>
    show pd_cnt f n + (if f n = true then 1 else 0) ≤ n + 1
    split <;> omega
theorem pd_cnt_mono (f g : Nat → Bool) : ∀ n, (∀ t, t < n → f t = true → g t = true) → pd_cnt f n ≤ pd_cnt g n := by
  intro n
  induction n with
  | zero => intro _; exact Nat.le_refl 0
  | succ n ih =>
    intro h
    have h1 := ih (fun t ht => h t (by omega))
    have h2 := h n (by omega)
    show pd_cnt f n + (if f n = true then 1 else 0) ≤ pd_cnt g n + (if g n = true then 1 else 0)
    by_cases hf : f n = true
    · rw [if_pos hf, if_pos (h2 hf)] <;> omega
    · rw [if_neg hf] <;> omega
theorem pd_cnt_congr (f g : Nat → Bool) (n : Nat) (h : ∀ t, t < n → f t = g t) : pd_cnt f n = pd_cnt g n :=
  Nat.le_antisymm (pd_cnt_mono f g n (fun t ht e => by rw [← h t ht]; exact e)) (pd_cnt_mono g f n (fun t ht e => by rw [h t ht]; exact e))
theorem pd_cnt_lt (f g : Nat → Bool) : ∀ n, (∀ t, t < n → f t = true → g t = true) → ∀ u, u < n → f u = false → g u = true → pd_cnt f n < pd_cnt g n := by
  intro n
  induction n with
  | zero => intro _ u hu; omega
  | succ n ih =>
    intro h u hu hf hg
    have hm := pd_cnt_mono f g n (fun t ht => h t (by omega))
    show pd_cnt f n + (if f n = true then 1 else 0) < pd_cnt g n + (if g n = true then 1 else 0)
    by_cases e : u = n
    · rw [← e, if_neg (by rw [hf]; decide : ¬ f u = true), if_pos hg, e] <;> omega
    · have h1 := ih (fun t ht => h t (by omega)) u (by omega) hf hg
      have h2 := h n (by omega)
      by_cases hf : f n = true
      · rw [if_pos hf, if_pos (h2 hf)] <;> omega
      · rw [if_neg hf] <;> omega
theorem pd_cnt_one (f g : Nat → Bool) : ∀ n u, u < n → f u = false → g u = true → (∀ t, t < n → t ≠ u → f t = g t) → pd_cnt g n = pd_cnt f n + 1 := by
  intro n
  induction n with
  | zero => intro u hu; omega
  | succ n ih =>
    intro u hu hf hg h
    show pd_cnt g n + (if g n = true then 1 else 0) = pd_cnt f n + (if f n = true then 1 else 0) + 1
    by_cases e : u = n
    · have h1 := pd_cnt_congr f g n (fun t ht => h t (by omega) (by omega))
      rw [← e, if_neg (by rw [hf]; decide : ¬ f u = true), if_pos hg, e, h1] <;> omega
    · have h1 := ih u (by omega) hf hg (fun t ht => h t (by omega))
      rw [h1, h n (by omega) (by omega)] <;> omega
theorem pd_cnt_full (f : Nat → Bool) : ∀ n, n ≤ pd_cnt f n → ∀ t, t < n → f t = true := by
  intro n
  induction n with
  | zero => intro _ t ht; omega
  | succ n ih =>
    intro h t ht
    have hl := pd_cnt_le f n
    have h' : n + 1 ≤ pd_cnt f n + (if f n = true then 1 else 0) := h
    by_cases hf : f n = true
    · rw [if_pos hf] at h'
      by_cases e : t = n
      · rw [e]; exact hf
      · exact ih (by omega) t (by omega)
    · rw [if_neg hf] at h'; omega
theorem pd_cnt_pos (f : Nat → Bool) (n u : Nat) (hu : u < n) (h : f u = true) : 1 ≤ pd_cnt f n := by
  have h1 := pd_cnt_lt (fun _ => false) f n (fun _ _ z => by simp at z) u hu rfl h
  omega
theorem pd_cnt_zero (f : Nat → Bool) (n : Nat) (h : pd_cnt f n = 0) (t : Nat) (ht : t < n) : f t = false := by
  cases e : f t with
  | false => rfl
  | true => have := pd_cnt_pos f n t ht e; omega
/-! the least set that holds t's targets and is closed under the edges, within P -/
def pd_cl (E : Nat → Nat → Prop) (P : Nat → Prop) (t : Nat) (S : Nat → Prop) : Prop :=
  (∀ x, E t x → P x → S x) ∧ (∀ w x, S w → E w x → P x → S x)
def pd_RC (E : Nat → Nat → Prop) (P : Nat → Prop) (t u : Nat) : Prop := ∀ S : Nat → Prop, pd_cl E P t S → S u
theorem pd_RC_cl (E : Nat → Nat → Prop) (P : Nat → Prop) (t : Nat) : pd_cl E P t (pd_RC E P t) :=
  ⟨fun x hx px _ hS => hS.1 x hx px, fun w x hw hx px S hS => hS.2 w x (hw S hS) hx px⟩
theorem pd_RC_congr {E : Nat → Nat → Prop} {P Q : Nat → Prop} (h : ∀ w x, E w x → (P x ↔ Q x)) (t u : Nat) : pd_RC E P t u ↔ pd_RC E Q t u :=
  ⟨fun H S hS => H S ⟨fun x hx px => hS.1 x hx ((h _ _ hx).mp px), fun w x hw hx px => hS.2 w x hw hx ((h _ _ hx).mp px)⟩,
   fun H S hS => H S ⟨fun x hx px => hS.1 x hx ((h _ _ hx).mpr px), fun w x hw hx px => hS.2 w x hw hx ((h _ _ hx).mpr px)⟩⟩
def pd_In (T : Nat) (f : Nat → Bool) : Nat → Prop := fun u => u < T ∧ f u = true
theorem pd_pass {T : Nat} {E : Nat → Nat → Prop} {P : Nat → Prop} {t : Nat} {f0 f1 : Nat → Bool} {k : Nat}
    (hE : ∀ a b, E a b → b < T)
    (h1 : ∀ u, u < T → f0 u = true → f1 u = true)
    (h2 : ∀ S : Nat → Prop, pd_cl E P t S → (∀ u, u < T → f0 u = true → S u) → ∀ u, u < T → f1 u = true → S u)
    (h3 : ∀ x, E t x → P x → f1 x = true)
    (h4 : ∀ w x, w < T → f0 w = true → E w x → P x → f1 x = true)
    (hI : pd_cl E P t (pd_In T f0) ∨ k ≤ pd_cnt f0 T) : pd_cl E P t (pd_In T f1) ∨ k + 1 ≤ pd_cnt f1 T := by
  by_cases hc : pd_cl E P t (pd_In T f0)
  · left
    have e : ∀ u, u < T → f1 u = true → f0 u = true := fun u hu h => (h2 _ hc (fun u hu h => ⟨hu, h⟩) u hu h).2
    exact ⟨fun x hx px => ⟨hE _ _ hx, h3 x hx px⟩, fun w x hw hx px => ⟨hE _ _ hx, h4 w x hw.1 (e w hw.1 hw.2) hx px⟩⟩
  · right
    have hk : k ≤ pd_cnt f0 T := hI.resolve_left hc
    by_cases hn : ∃ u, u < T ∧ f0 u = false ∧ f1 u = true
    · obtain ⟨u, hu, a, b⟩ := hn
      have := pd_cnt_lt f0 f1 T h1 u hu a b
      omega
    · exfalso
      apply hc
      have e : ∀ u, u < T → f1 u = true → f0 u = true := fun u hu h => by
        cases h0 : f0 u with
        | true => rfl
        | false => exact absurd ⟨u, hu, h0, h⟩ hn
      exact ⟨fun x hx px => ⟨hE _ _ hx, e x (hE _ _ hx) (h3 x hx px)⟩, fun w x hw hx px => ⟨hE _ _ hx, e x (hE _ _ hx) (h4 w x hw.1 hw.2 hx px)⟩⟩
theorem pd_passed {T : Nat} {E : Nat → Nat → Prop} {P : Nat → Prop} {t : Nat} {f : Nat → Bool} (hE : ∀ a b, E a b → b < T)
    (hI : pd_cl E P t (pd_In T f) ∨ T ≤ pd_cnt f T) : pd_cl E P t (pd_In T f) := by
  rcases hI with h | h
  · exact h
  · have hf := pd_cnt_full f T h
    exact ⟨fun x hx _ => ⟨hE _ _ hx, hf x (hE _ _ hx)⟩, fun w x _ hx _ => ⟨hE _ _ hx, hf x (hE _ _ hx)⟩⟩
theorem pd_RC_is {T : Nat} {E : Nat → Nat → Prop} {P : Nat → Prop} {t : Nat} {f : Nat → Bool} (h1 : pd_cl E P t (pd_In T f))
    (h2 : ∀ u, u < T → f u = true → pd_RC E P t u) (u : Nat) (hu : u < T) : f u = true ↔ pd_RC E P t u :=
  ⟨h2 u hu, fun h => (h _ h1).2⟩
end
section
/-! tables of locks and transactions, and one lock's queue with its holder: place 0 none, 1 the holder, 2 the first in the queue -/
theorem pd_if1 {α : Type} {c d : Prop} [Decidable c] [Decidable d] {x y : α} (h : c ↔ d) : (if c then x else y) = (if d then x else y) := by
  by_cases z : c
  · have w : d := h.mp z
    rw [if_pos z, if_pos w]
  · have w : ¬ d := fun k => z (h.mpr k)
    rw [if_neg z, if_neg w]
theorem pd_if2 {α : Type} {c d e : Prop} [Decidable c] [Decidable d] [Decidable e] {x y : α} (h : (c ∨ d) ↔ e) : (if c then x else if d then x else y) = (if e then x else y) := by
  by_cases z : c
  · have w : e := h.mp (Or.inl z)
    rw [if_pos z, if_pos w]
  · rw [if_neg z]
    by_cases k : d
    · have w : e := h.mp (Or.inr k)
      rw [if_pos k, if_pos w]
    · have w : ¬ e := fun j => (h.mpr j).elim z k
      rw [if_neg k, if_neg w]
theorem pd_if3 {α : Type} {c : Prop} [Decidable c] {x y : α} (h : c → x = y) : (if c then x else y) = y := by
  by_cases z : c
  · rw [if_pos z, h z]
  · rw [if_neg z]
def pd_set {α : Type} (q : Nat → Nat → α) (l t : Nat) (k : α) : Nat → Nat → α := fun a b => if a = l ∧ b = t then k else q a b
def pd_x (m : Nat → Nat → Int32) : Nat → Int32 := fun c => m (c / 8) (c % 8)
def pd_y (m : Nat → Nat → Int32) : Nat → Int32 := fun c => m (c % 12) (c / 12)
theorem pd_x_at (m : Nat → Nat → Int32) {l t : Nat} (ht : t < 8) : pd_x m (l * 8 + t) = m l t := by
  unfold pd_x
  rw [show (l * 8 + t) / 8 = l by omega, show (l * 8 + t) % 8 = t by omega]
theorem pd_y_at (m : Nat → Nat → Int32) {l t : Nat} (hl : l < 12) : pd_y m (t * 12 + l) = m l t := by
  unfold pd_y
  rw [show (t * 12 + l) / 12 = t by omega, show (t * 12 + l) % 12 = l by omega]
theorem pd_x_upd (m : Nat → Nat → Int32) {l t : Nat} (ht : t < 8) (v : Int32) : upd (pd_x m) (l * 8 + t) v = pd_x (pd_set m l t v) := by
  funext c
  show (if c = l * 8 + t then v else m (c / 8) (c % 8)) = (if c / 8 = l ∧ c % 8 = t then v else m (c / 8) (c % 8))
  by_cases h : c = l * 8 + t
  · rw [if_pos h, if_pos (by omega : c / 8 = l ∧ c % 8 = t)]
  · rw [if_neg h, if_neg (by omega : ¬ (c / 8 = l ∧ c % 8 = t))]
theorem pd_y_upd (m : Nat → Nat → Int32) {l t : Nat} (hl : l < 12) (v : Int32) : upd (pd_y m) (t * 12 + l) v = pd_y (pd_set m l t v) := by
  funext c
  show (if c = t * 12 + l then v else m (c % 12) (c / 12)) = (if c % 12 = l ∧ c / 12 = t then v else m (c % 12) (c / 12))
  by_cases h : c = t * 12 + l
  · rw [if_pos h, if_pos (by omega : c % 12 = l ∧ c / 12 = t)]
  · rw [if_neg h, if_neg (by omega : ¬ (c % 12 = l ∧ c / 12 = t))]
theorem pd_set_of (g : Nat → Int32) (q : Nat → Nat → Nat) (l t k : Nat) : pd_set (fun a b => g (q a b)) l t (g k) = fun a b => g (pd_set q l t k a b) := by
  funext a b
  show (if a = l ∧ b = t then g k else g (q a b)) = g (if a = l ∧ b = t then k else q a b)
  by_cases h : a = l ∧ b = t
  · rw [if_pos h, if_pos h]
  · rw [if_neg h, if_neg h]
theorem pd_set_at {α : Type} (q : Nat → Nat → α) (l t : Nat) (k : α) : pd_set q l t k l t = k := if_pos ⟨rfl, rfl⟩
theorem pd_set_ne {α : Type} (q : Nat → Nat → α) (l t : Nat) (k : α) {a b : Nat} (h : ¬ (a = l ∧ b = t)) : pd_set q l t k a b = q a b := if_neg h
theorem pd_set_id {α : Type} (q : Nat → Nat → α) (l t : Nat) (k : α) (h : q l t = k) : pd_set q l t k = q := by
  funext a b
  show (if a = l ∧ b = t then k else q a b) = q a b
  by_cases e : a = l ∧ b = t
  · rw [if_pos e, e.1, e.2, h]
  · rw [if_neg e]
/-- t taken out of the queue of l, all behind it moved up; of the transactions below j -/
def pd_rem (j : Nat) (q : Nat → Nat → Nat) (l t : Nat) : Nat → Nat → Nat :=
  fun a b => if a = l then (if b = t then 0 else if b < j ∧ q l t < q l b then q l b - 1 else q l b) else q a b
theorem pd_rem_ne (j : Nat) (q : Nat → Nat → Nat) (l t : Nat) {a : Nat} (b : Nat) (h : a ≠ l) : pd_rem j q l t a b = q a b := if_neg h
theorem pd_rem_t (j : Nat) (q : Nat → Nat → Nat) (l t : Nat) : pd_rem j q l t l t = 0 := by
  unfold pd_rem
  rw [if_pos rfl, if_pos rfl]
theorem pd_rem_gt (j : Nat) (q : Nat → Nat → Nat) (l t : Nat) {b : Nat} (hj : b < j) (h : q l t < q l b) : pd_rem j q l t l b = q l b - 1 := by
  unfold pd_rem
  have hb : b ≠ t := fun e => by rw [e] at h; omega
  rw [if_pos rfl, if_neg hb, if_pos ⟨hj, h⟩]
theorem pd_rem_le (j : Nat) (q : Nat → Nat → Nat) (l t : Nat) {b : Nat} (hb : b ≠ t) (h : ¬ (b < j ∧ q l t < q l b)) : pd_rem j q l t l b = q l b := by
  unfold pd_rem
  rw [if_pos rfl, if_neg hb, if_neg h]
theorem pd_rem_row (j : Nat) (q : Nat → Nat → Nat) (l t : Nat) : pd_rem j q l t l = fun b => if b = t then 0 else if b < j ∧ q l t < q l b then q l b - 1 else q l b := by
  funext b
  exact if_pos rfl
theorem pd_rem_rows (j : Nat) (q : Nat → Nat → Nat) (l t : Nat) {a : Nat} (h : a ≠ l) : pd_rem j q l t a = q a := by
  funext b
  exact if_neg h
theorem pd_rem_0 (q : Nat → Nat → Nat) (l t : Nat) : pd_set q l t 0 = pd_rem 0 q l t := by
  funext a b
  by_cases ha : a = l
  · by_cases hb : b = t
    · rw [ha, hb, pd_set_at, pd_rem_t]
    · have z : ¬ (a = l ∧ b = t) := fun z => hb z.2
      rw [pd_set_ne _ _ _ _ z, ha, pd_rem_le _ _ _ _ hb (by omega)]
  · have z : ¬ (a = l ∧ b = t) := fun z => ha z.1
    rw [pd_set_ne _ _ _ _ z, pd_rem_ne _ _ _ _ _ ha]
theorem pd_rem_j (q : Nat → Nat → Nat) (l t : Nat) (j : Nat) (h : q l t < pd_rem j q l t l j) : j ≠ t ∧ pd_rem j q l t l j = q l j := by
  have hj : j ≠ t := fun e => by rw [e, pd_rem_t] at h; omega
  exact ⟨hj, pd_rem_le _ _ _ _ hj (by omega)⟩
theorem pd_rem_s1 (q : Nat → Nat → Nat) (l t : Nat) (j : Nat) (h : q l t < pd_rem j q l t l j) : pd_set (pd_rem j q l t) l j (pd_rem j q l t l j - 1) = pd_rem (j + 1) q l t := by
  obtain ⟨hj, e⟩ := pd_rem_j q l t j h
  rw [e] at h
  rw [e]
  funext a b
  by_cases ha : a = l
  · by_cases hb : b = j
    · rw [ha, hb, pd_set_at, pd_rem_gt _ _ _ _ (by omega) h]
    · have z : ¬ (a = l ∧ b = j) := fun z => hb z.2
      rw [pd_set_ne _ _ _ _ z, ha]
      by_cases ht : b = t
      · rw [ht, pd_rem_t, pd_rem_t]
      · by_cases hg : b < j ∧ q l t < q l b
        · rw [pd_rem_gt _ _ _ _ hg.1 hg.2, pd_rem_gt _ _ _ _ (by omega) hg.2]
        · rw [pd_rem_le _ _ _ _ ht hg, pd_rem_le _ _ _ _ ht (by omega)]
  · have z : ¬ (a = l ∧ b = j) := fun z => ha z.1
    rw [pd_set_ne _ _ _ _ z, pd_rem_ne _ _ _ _ _ ha, pd_rem_ne _ _ _ _ _ ha]
theorem pd_rem_s0 (q : Nat → Nat → Nat) (l t : Nat) (j : Nat) (h : ¬ q l t < pd_rem j q l t l j) : pd_rem j q l t = pd_rem (j + 1) q l t := by
  funext a b
  by_cases ha : a = l
  · rw [ha]
    by_cases ht : b = t
    · rw [ht, pd_rem_t, pd_rem_t]
    · by_cases hb : b = j
      · subst hb
        have e : pd_rem b q l t l b = q l b := pd_rem_le _ _ _ _ ht (by omega)
        rw [e] at h
        rw [e, pd_rem_le _ _ _ _ ht (by omega)]
      · by_cases hg : b < j ∧ q l t < q l b
        · rw [pd_rem_gt _ _ _ _ hg.1 hg.2, pd_rem_gt _ _ _ _ (by omega) hg.2]
        · rw [pd_rem_le _ _ _ _ ht hg, pd_rem_le _ _ _ _ ht (by omega)]
  · rw [pd_rem_ne _ _ _ _ _ ha, pd_rem_ne _ _ _ _ _ ha]
/-- the marks that the reference takes away when t leaves l -/
def pd_mrem (j : Nat) (q : Nat → Nat → Nat) (m : Nat → Nat → Int32) (l t : Nat) : Nat → Nat → Int32 :=
  fun a b => if a = l ∧ (b = t ∨ (b < j ∧ q l t < q l b ∧ q l b = 2)) then 0 else m a b
theorem pd_mrem_0 (q : Nat → Nat → Nat) (m : Nat → Nat → Int32) (l t : Nat) : pd_set m l t 0 = pd_mrem 0 q m l t := by
  funext a b
  exact pd_if1 (by omega : (a = l ∧ b = t) ↔ (a = l ∧ (b = t ∨ (b < 0 ∧ q l t < q l b ∧ q l b = 2))))
theorem pd_mrem_s1 (q : Nat → Nat → Nat) (m : Nat → Nat → Int32) (l t j : Nat) (h : q l t < q l j) (h2 : q l j = 2) : pd_set (pd_mrem j q m l t) l j 0 = pd_mrem (j + 1) q m l t := by
  funext a b
  have key : (a = l ∧ b = j) ∨ (a = l ∧ (b = t ∨ (b < j ∧ q l t < q l b ∧ q l b = 2))) ↔ (a = l ∧ (b = t ∨ (b < j + 1 ∧ q l t < q l b ∧ q l b = 2))) := by
    by_cases e : b = j
    · subst e; omega
    · omega
  exact pd_if2 key
theorem pd_mrem_s0 (q : Nat → Nat → Nat) (m : Nat → Nat → Int32) (l t j : Nat) (h : ¬ (q l t < q l j ∧ q l j = 2)) : pd_mrem j q m l t = pd_mrem (j + 1) q m l t := by
  funext a b
  have key : (a = l ∧ (b = t ∨ (b < j ∧ q l t < q l b ∧ q l b = 2))) ↔ (a = l ∧ (b = t ∨ (b < j + 1 ∧ q l t < q l b ∧ q l b = 2))) := by
    by_cases e : b = j
    · subst e; omega
    · omega
  exact pd_if1 key
/-- how many have a place -/
def pd_n (T : Nat) (f : Nat → Nat) : Nat := pd_cnt (fun t => decide (f t ≠ 0)) T
/-- the places of one lock are 1 .. n, each once -/
def pd_Q (T : Nat) (f : Nat → Nat) : Prop :=
  (∀ t, t < T → f t ≤ pd_n T f) ∧ (∀ k, 0 < k → k ≤ pd_n T f → ∃ t, t < T ∧ f t = k) ∧ (∀ t u, t < T → u < T → f t = f u → f t ≠ 0 → t = u)
theorem pd_Q_rem {T t : Nat} {f : Nat → Nat} (h : pd_Q T f) (ht : t < T) (hf : f t ≠ 0) (g : Nat → Nat)
    (hg : ∀ b, g b = if b = t then 0 else if b < T ∧ f t < f b then f b - 1 else f b) : pd_Q T g := by
  obtain ⟨ha, hb, hc⟩ := h
  have gt : g t = 0 := by rw [hg, if_pos rfl]
  have g1 : ∀ b, b < T → f t < f b → g b = f b - 1 := fun b hb h => by
    have : b ≠ t := fun e => by rw [e] at h; omega
    rw [hg, if_neg this, if_pos ⟨hb, h⟩]
  have g0 : ∀ b, b ≠ t → ¬ f t < f b → g b = f b := fun b hb h => by
    have w : ¬ (b < T ∧ f t < f b) := fun z => h z.2
    rw [hg, if_neg hb, if_neg w]
  have hn : pd_n T f = pd_n T g + 1 := by
    refine pd_cnt_one _ _ T t ht (by simp [gt]) (by simp [hf]) (fun b hb e => ?_)
    by_cases z : f t < f b
    · have := g1 b hb z
      have e1 : g b ≠ 0 := by omega
      have e2 : f b ≠ 0 := by omega
      simp [e1, e2]
    · show decide (g b ≠ 0) = decide (f b ≠ 0)
      rw [g0 b e z]
  refine ⟨fun b hbT => ?_, fun k k0 kn => ?_, fun b c hbT hcT e e0 => ?_⟩
  · by_cases e : b = t
    · rw [e, gt]; omega
    · by_cases z : f t < f b
      · have := g1 b hbT z
        have := ha b hbT
        omega
      · have e1 := g0 b e z
        have e2 := ha t ht
        by_cases e3 : f b = 0
        · omega
        · have : f b ≠ f t := fun e4 => e (hc b t hbT ht e4 e3)
          omega
  · by_cases z : k < f t
    · obtain ⟨b, hbT, e⟩ := hb k k0 (by have := ha t ht; omega)
      exact ⟨b, hbT, by rw [g0 b (fun e1 => by rw [e1] at e; omega) (by omega)]; exact e⟩
    · obtain ⟨b, hbT, e⟩ := hb (k + 1) (by omega) (by omega)
      exact ⟨b, hbT, by rw [g1 b hbT (by omega)]; omega⟩
  · have nbt : b ≠ t := fun z => by rw [z, gt] at e0; exact e0 rfl
    have ct : c ≠ t := fun z => by rw [z, gt] at e; exact e0 e
    by_cases zb : f t < f b
    · have eb := g1 b hbT zb
      by_cases zc : f t < f c
      · have ec := g1 c hcT zc
        exact hc b c hbT hcT (by omega) (by omega)
      · have ec := g0 c ct zc
        have : f c ≠ f t := fun e4 => ct (hc c t hcT ht e4 (by omega))
        omega
    · have eb := g0 b nbt zb
      have nb : f b ≠ f t := fun e4 => nbt (hc b t hbT ht e4 (by omega))
      by_cases zc : f t < f c
      · have ec := g1 c hcT zc
        omega
      · have ec := g0 c ct zc
        exact hc b c hbT hcT (by omega) (by omega)
theorem pd_Q_add {T t : Nat} {f : Nat → Nat} (h : pd_Q T f) (ht : t < T) (hf : f t = 0) (g : Nat → Nat)
    (gt : g t = pd_n T f + 1) (g0 : ∀ b, b ≠ t → g b = f b) : pd_Q T g := by
  obtain ⟨ha, hb, hc⟩ := h
  have hn : pd_n T g = pd_n T f + 1 := by
    refine pd_cnt_one _ _ T t ht (by simp [hf]) (by simp [gt]) (fun b _ e => ?_)
    show decide (f b ≠ 0) = decide (g b ≠ 0)
    rw [g0 b e]
  refine ⟨fun b hbT => ?_, fun k k0 kn => ?_, fun b c hbT hcT e e0 => ?_⟩
  · by_cases e : b = t
    · rw [e, gt]; omega
    · rw [g0 b e]; have := ha b hbT; omega
  · by_cases z : k = pd_n T f + 1
    · exact ⟨t, ht, by rw [gt, z]⟩
    · obtain ⟨b, hbT, e⟩ := hb k k0 (by omega)
      exact ⟨b, hbT, by rw [g0 b (fun e1 => by rw [e1] at e; omega)]; exact e⟩
  · by_cases zb : b = t
    · by_cases zc : c = t
      · rw [zb, zc]
      · have := ha c hcT
        rw [zb, gt, g0 c zc] at e
        omega
    · by_cases zc : c = t
      · have := ha b hbT
        rw [zc, gt, g0 b zb] at e
        omega
      · rw [g0 b zb] at e e0
        rw [g0 c zc] at e
        exact hc b c hbT hcT e e0
theorem pd_n_le (T : Nat) (f : Nat → Nat) : pd_n T f ≤ T := pd_cnt_le _ _
/-- all but the holder -/
theorem pd_n_tail {T h : Nat} {f : Nat → Nat} (hQ : pd_Q T f) (hh : h < T) (e : f h = 1) : pd_n T f = pd_n T (fun t => f t - 1) + 1 := by
  refine pd_cnt_one _ _ T h hh (by simp [e]) (by simp [e]) (fun b hb n => ?_)
  have : f b ≠ 1 := fun z => n (hQ.2.2 b h hb hh (by omega) (by omega))
  by_cases z : f b = 0
  · simp [z]
  · have e1 : f b - 1 ≠ 0 := by omega
    simp [z, e1]
end
section
/-! what holds of places q, marks m, states s (the reference's), st and holders hd (the component's) -/
def pd_W (L : Nat) (q : Nat → Nat → Nat) (t : Nat) : Prop := ∃ l, l < L ∧ 2 ≤ q l t
def pd_G (T L : Nat) (q : Nat → Nat → Nat) (m : Nat → Nat → Int32) (s : Nat → Int32) : Prop :=
  (∀ l, l < L → pd_Q T (q l)) ∧ (∀ l t, l < L → t < T → m l t ≠ 0 → 2 ≤ q l t) ∧ (∀ l t, l < L → t < T → q l t ≠ 0 → s t = 1) ∧ (∀ l t, q l t < 16)
def pd_H (T : Nat) (q : Nat → Nat → Nat) (hd : Nat → Int32) (l : Nat) : Prop :=
  (∀ t, t < T → q l t = 1 → hd l = nI t) ∧ ((∀ t, t < T → q l t ≠ 1) → hd l = -1)
def pd_S (L : Nat) (q : Nat → Nat → Nat) (s st : Nat → Int32) (t : Nat) : Prop :=
  (s t = 0 ∨ s t = 1 ∨ s t = 3) ∧ (s t = 1 → pd_W L q t → st t = 2) ∧ (s t = 1 → ¬ pd_W L q t → st t = 1) ∧ (s t ≠ 1 → st t = s t)
def pd_R (e T L : Nat) (q : Nat → Nat → Nat) (m : Nat → Nat → Int32) (s st hd : Nat → Int32) : Prop :=
  pd_G T L q m s ∧ (∀ l, l < L → pd_H T q hd l) ∧ (∀ t, t < T → t ≠ e → pd_S L q s st t)
theorem pd_m1 : ∀ t, t < 8 → nI t ≠ -1 := by decide +kernel
theorem pd_H_iff {T : Nat} {q : Nat → Nat → Nat} {hd : Nat → Int32} {l : Nat} (hT : T ≤ 8) (h : pd_H T q hd l) {t : Nat} (ht : t < T) : hd l = nI t ↔ q l t = 1 := by
  constructor
  · intro e
    by_cases z : ∃ u, u < T ∧ q l u = 1
    · obtain ⟨u, hu, e1⟩ := z
      have e2 := h.1 u hu e1
      rw [e] at e2
      rw [nI_eq (by omega) (by omega)] at e2
      rw [e2]
      exact e1
    · have e2 := h.2 (fun u hu e1 => z ⟨u, hu, e1⟩)
      rw [e] at e2
      exact absurd e2 (pd_m1 t (by omega))
  · exact h.1 t ht
theorem pd_H_none {T : Nat} {q : Nat → Nat → Nat} {hd : Nat → Int32} {l : Nat} (hT : T ≤ 8) (h : pd_H T q hd l) : hd l = -1 ↔ ∀ t, t < T → q l t ≠ 1 := by
  constructor
  · intro e t ht e1
    have e2 := h.1 t ht e1
    rw [e] at e2
    exact pd_m1 t (by omega) e2.symm
  · exact h.2
theorem pd_S_live {L : Nat} {q : Nat → Nat → Nat} {s st : Nat → Int32} {t : Nat} (h : pd_S L q s st t) : (st t = 1 ∨ st t = 2) ↔ s t = 1 := by
  obtain ⟨h0, h1, h2, h3⟩ := h
  constructor
  · intro e
    rcases h0 with z | z | z
    · rw [h3 (by rw [z]; decide), z] at e
      exact absurd e (by decide)
    · exact z
    · rw [h3 (by rw [z]; decide), z] at e
      exact absurd e (by decide)
  · intro e
    by_cases w : pd_W L q t
    · exact Or.inr (h1 e w)
    · exact Or.inl (h2 e w)
theorem pd_S_run {L : Nat} {q : Nat → Nat → Nat} {s st : Nat → Int32} {t : Nat} (h : pd_S L q s st t) : st t = 1 ↔ (s t = 1 ∧ ¬ pd_W L q t) := by
  constructor
  · intro e
    have e1 := (pd_S_live h).mp (Or.inl e)
    refine ⟨e1, fun w => ?_⟩
    rw [h.2.1 e1 w] at e
    exact absurd e (by decide)
  · intro e
    exact h.2.2.1 e.1 e.2
theorem pd_R_any {T L : Nat} {q : Nat → Nat → Nat} {m : Nat → Nat → Int32} {s st hd : Nat → Int32} (e : Nat) (hT : T ≤ 8) (h : pd_R 8 T L q m s st hd) : pd_R e T L q m s st hd :=
  ⟨h.1, h.2.1, fun t ht _ => h.2.2 t ht (by omega)⟩
theorem pd_R_all {e T L : Nat} {q : Nat → Nat → Nat} {m : Nat → Nat → Int32} {s st hd : Nat → Int32} (h : pd_R e T L q m s st hd) (hS : e < T → pd_S L q s st e) : pd_R 8 T L q m s st hd :=
  ⟨h.1, h.2.1, fun t ht _ => by
    by_cases z : t = e
    · rw [z]; exact hS (by omega)
    · exact h.2.2 t ht z⟩
/-- the component's places -/
def pd_p (q : Nat → Nat → Nat) : Nat → Nat → Nat := fun l t => q l t - 1
theorem pd_G_rem {T L : Nat} {q : Nat → Nat → Nat} {m : Nat → Nat → Int32} {s : Nat → Int32} (h : pd_G T L q m s) {l t : Nat} (hl : l < L) (ht : t < T) (e : q l t ≠ 0) :
    pd_G T L (pd_rem T q l t) (pd_mrem T q m l t) s := by
  obtain ⟨h1, h2, h3, h4⟩ := h
  refine ⟨fun a ha => ?_, fun a b ha hb hm => ?_, fun a b ha hb hn => ?_, fun a b => ?_⟩
  · by_cases z : a = l
    · rw [z]
      exact pd_Q_rem (h1 l hl) ht e _ (fun b => by rw [pd_rem_row])
    · rw [pd_rem_rows _ _ _ _ z]
      exact h1 a ha
  · by_cases z : a = l
    · rw [z] at hm
      rw [z]
      by_cases c : b = t ∨ (b < T ∧ q l t < q l b ∧ q l b = 2)
      · exact absurd (if_pos ⟨rfl, c⟩ : pd_mrem T q m l t l b = 0) hm
      · have e1 : pd_mrem T q m l t l b = m l b := if_neg (fun z => c z.2)
        rw [e1] at hm
        have e2 := h2 l b hl hb hm
        by_cases g : q l t < q l b
        · rw [pd_rem_gt _ _ _ _ hb g]; omega
        · rw [pd_rem_le _ _ _ _ (by omega) (by omega)]; exact e2
    · rw [pd_rem_ne _ _ _ _ _ z]
      have e1 : pd_mrem T q m l t a b = m a b := if_neg (fun y => z y.1)
      rw [e1] at hm
      exact h2 a b ha hb hm
  · apply h3 a b ha hb
    intro e0
    apply hn
    by_cases z : a = l
    · rw [z] at e0
      rw [z]
      by_cases y : b = t
      · rw [y, pd_rem_t]
      · rw [pd_rem_le _ _ _ _ y (by omega), e0]
    · rw [pd_rem_ne _ _ _ _ _ z, e0]
  · by_cases z : a = l
    · rw [z]
      by_cases y : b = t
      · rw [y, pd_rem_t]; omega
      · have := h4 l b
        by_cases g : b < T ∧ q l t < q l b
        · rw [pd_rem_gt _ _ _ _ g.1 g.2]; omega
        · rw [pd_rem_le _ _ _ _ y g]; exact this
    · rw [pd_rem_ne _ _ _ _ _ z]; exact h4 a b
/-! t leaves the queue of l -/
theorem pd_q_m {T : Nat} {q : Nat → Nat → Nat} {m : Nat → Nat → Int32} {l t : Nat} (e : 2 ≤ q l t) : pd_mrem T q m l t = pd_set m l t 0 := by
  funext a b
  exact pd_if1 (by omega : (a = l ∧ (b = t ∨ (b < T ∧ q l t < q l b ∧ q l b = 2))) ↔ (a = l ∧ b = t))
theorem pd_q_p {T : Nat} {q : Nat → Nat → Nat} {l t : Nat} (e : 2 ≤ q l t) : pd_rem T (pd_p q) l t = pd_p (pd_rem T q l t) := by
  funext a b
  by_cases z : a = l
  · rw [z]
    by_cases y : b = t
    · rw [y, pd_rem_t]
      show 0 = pd_rem T q l t l t - 1
      rw [pd_rem_t] <;> rfl
    · by_cases g : b < T ∧ q l t < q l b
      · have g' : pd_p q l t < pd_p q l b := by show q l t - 1 < q l b - 1; omega
        rw [pd_rem_gt _ _ _ _ g.1 g']
        show q l b - 1 - 1 = pd_rem T q l t l b - 1
        rw [pd_rem_gt _ _ _ _ g.1 g.2]
      · have g' : ¬ (b < T ∧ pd_p q l t < pd_p q l b) := by show ¬ (b < T ∧ q l t - 1 < q l b - 1); omega
        rw [pd_rem_le _ _ _ _ y g']
        show q l b - 1 = pd_rem T q l t l b - 1
        rw [pd_rem_le _ _ _ _ y g]
  · rw [pd_rem_ne _ _ _ _ _ z]
    show q a b - 1 = pd_rem T q l t a b - 1
    rw [pd_rem_ne _ _ _ _ _ z]
theorem pd_q_W {T L : Nat} {q : Nat → Nat → Nat} {l t u : Nat} (hu : u < T) (e : 2 ≤ q l t) (n : u ≠ t) : pd_W L (pd_rem T q l t) u ↔ pd_W L q u := by
  have key : ∀ a, 2 ≤ pd_rem T q l t a u ↔ 2 ≤ q a u := fun a => by
    by_cases z : a = l
    · rw [z]
      by_cases g : q l t < q l u
      · rw [pd_rem_gt _ _ _ _ hu g]; omega
      · rw [pd_rem_le _ _ _ _ n (by omega)]
    · rw [pd_rem_ne _ _ _ _ _ z]
  exact ⟨fun ⟨a, h1, h2⟩ => ⟨a, h1, (key a).mp h2⟩, fun ⟨a, h1, h2⟩ => ⟨a, h1, (key a).mpr h2⟩⟩
theorem pd_S_eqv {L : Nat} {q q' : Nat → Nat → Nat} {s st : Nat → Int32} {t : Nat} (w : pd_W L q' t ↔ pd_W L q t) (h : pd_S L q s st t) : pd_S L q' s st t :=
  ⟨h.1, fun a b => h.2.1 a (w.mp b), fun a b => h.2.2.1 a (fun c => b (w.mpr c)), h.2.2.2⟩
theorem pd_R_queued {T L : Nat} {q : Nat → Nat → Nat} {m : Nat → Nat → Int32} {s st hd : Nat → Int32} {l t : Nat} (h : pd_R t T L q m s st hd) (hl : l < L) (ht : t < T) (e : 2 ≤ q l t) :
    pd_R t T L (pd_rem T q l t) (pd_set m l t 0) s st hd := by
  refine ⟨pd_q_m (T := T) (m := m) e ▸ pd_G_rem h.1 hl ht (by omega), fun a ha => ?_, fun u hu n => pd_S_eqv (pd_q_W hu e n) (h.2.2 u hu n)⟩
  have H := h.2.1 a ha
  have key : ∀ u, u < T → (pd_rem T q l t a u = 1 ↔ q a u = 1) := fun u hu => by
    by_cases z : a = l
    · rw [z]
      by_cases y : u = t
      · rw [y, pd_rem_t]; omega
      · by_cases g : q l t < q l u
        · rw [pd_rem_gt _ _ _ _ hu g]; omega
        · rw [pd_rem_le _ _ _ _ y (by omega)]
    · rw [pd_rem_ne _ _ _ _ _ z]
  exact ⟨fun u hu e1 => H.1 u hu ((key u hu).mp e1), fun H1 => H.2 (fun u hu e1 => H1 u hu ((key u hu).mpr e1))⟩
end
section
/-! the holder t of l leaves: nobody is next, or n is -/
theorem pd_h_none {T L : Nat} {q : Nat → Nat → Nat} {m : Nat → Nat → Int32} {s : Nat → Int32} {l t : Nat} (h : pd_G T L q m s) (hl : l < L) (ht : t < T) (e : q l t = 1) (hn : ∀ u, u < T → q l u ≠ 2) :
    pd_p (pd_rem T q l t) = pd_p q ∧ pd_mrem T q m l t = m := by
  have hQ := h.1 l hl
  have h1 : ∀ u, u < T → q l u ≤ 1 := fun u hu => by
    apply Nat.le_of_not_lt
    intro g
    have := hQ.1 u hu
    obtain ⟨v, hv, ev⟩ := hQ.2.1 2 (by omega) (by omega)
    exact hn v hv ev
  constructor
  · funext a b
    show pd_rem T q l t a b - 1 = q a b - 1
    by_cases z : a = l
    · rw [z]
      by_cases y : b = t
      · rw [y, pd_rem_t, e] <;> rfl
      · have w : ¬ (b < T ∧ q l t < q l b) := fun c => by have := h1 b c.1; omega
        rw [pd_rem_le _ _ _ _ y w]
    · rw [pd_rem_ne _ _ _ _ _ z]
  · funext a b
    refine pd_if3 (c := a = l ∧ (b = t ∨ (b < T ∧ q l t < q l b ∧ q l b = 2))) (fun c => ?_)
    rcases c.2 with y | y
    · rw [c.1, y]
      by_cases w : m l t = 0
      · exact w.symm
      · have := h.2.1 l t hl ht w; omega
    · exact absurd y.2.2 (hn b y.1)
theorem pd_h_next {T L : Nat} {q : Nat → Nat → Nat} {m : Nat → Nat → Int32} {s : Nat → Int32} {l t n : Nat} (h : pd_G T L q m s) (hl : l < L) (ht : t < T) (e : q l t = 1) (hn : n < T) (en : q l n = 2) :
    pd_p (pd_rem T q l t) = pd_rem T (pd_p q) l n ∧ pd_mrem T q m l t = pd_set m l n 0 := by
  have hQ := h.1 l hl
  have ntn : t ≠ n := fun z => by rw [z] at e; omega
  have i1 : ∀ u, u < T → q l u = 1 → u = t := fun u hu z => hQ.2.2 u t hu ht (by omega) (by omega)
  have i2 : ∀ u, u < T → q l u = 2 → u = n := fun u hu z => hQ.2.2 u n hu hn (by omega) (by omega)
  constructor
  · funext a b
    show pd_rem T q l t a b - 1 = pd_rem T (pd_p q) l n a b
    by_cases z : a = l
    · rw [z]
      by_cases y : b = n
      · rw [y, pd_rem_t T (pd_p q) l n, pd_rem_gt T q l t hn (by omega), en] <;> rfl
      · by_cases hb : b < T
        · by_cases g : 1 < q l b
          · have : q l b ≠ 2 := fun c => y (i2 b hb c)
            have g' : pd_p q l n < pd_p q l b := by show q l n - 1 < q l b - 1; omega
            rw [pd_rem_gt T q l t hb (by omega), pd_rem_gt T (pd_p q) l n hb g'] <;> rfl
          · have g' : ¬ (b < T ∧ pd_p q l n < pd_p q l b) := by show ¬ (b < T ∧ q l n - 1 < q l b - 1); omega
            rw [pd_rem_le T (pd_p q) l n y g']
            show pd_rem T q l t l b - 1 = q l b - 1
            by_cases yt : b = t
            · rw [yt, pd_rem_t, e] <;> rfl
            · rw [pd_rem_le T q l t yt (by omega)]
        · have yt : b ≠ t := by omega
          have w1 : ¬ (b < T ∧ q l t < q l b) := fun c => hb c.1
          have w2 : ¬ (b < T ∧ pd_p q l n < pd_p q l b) := fun c => hb c.1
          rw [pd_rem_le T q l t yt w1, pd_rem_le T (pd_p q) l n y w2] <;> rfl
    · rw [pd_rem_ne T q l t b z, pd_rem_ne T (pd_p q) l n b z] <;> rfl
  · funext a b
    show (if a = l ∧ (b = t ∨ (b < T ∧ q l t < q l b ∧ q l b = 2)) then 0 else m a b) = (if a = l ∧ b = n then 0 else m a b)
    by_cases yt : a = l ∧ b = t
    · have w1 : a = l ∧ (b = t ∨ (b < T ∧ q l t < q l b ∧ q l b = 2)) := ⟨yt.1, Or.inl yt.2⟩
      have w2 : ¬ (a = l ∧ b = n) := fun c => ntn (yt.2.symm.trans c.2)
      rw [if_pos w1, if_neg w2, yt.1, yt.2]
      by_cases w : m l t = 0
      · exact w.symm
      · have := h.2.1 l t hl ht w; omega
    · refine pd_if1 ⟨fun c => ⟨c.1, ?_⟩, fun c => ⟨c.1, Or.inr ?_⟩⟩
      · rcases c.2 with w | w
        · exact absurd ⟨c.1, w⟩ yt
        · exact i2 b w.1 w.2.2
      · rw [c.2]
        exact ⟨hn, by omega, en⟩
theorem pd_h_W {T L : Nat} {q : Nat → Nat → Nat} {l t u : Nat} (hu : u < T) (e : q l t = 1) (n : q l u ≠ 2) : pd_W L (pd_rem T q l t) u ↔ pd_W L q u := by
  have key : ∀ a, 2 ≤ pd_rem T q l t a u ↔ 2 ≤ q a u := fun a => by
    by_cases z : a = l
    · rw [z]
      by_cases g : q l t < q l u
      · rw [pd_rem_gt _ _ _ _ hu g]; omega
      · by_cases y : u = t
        · rw [y, pd_rem_t]; omega
        · rw [pd_rem_le _ _ _ _ y (by omega)]
    · rw [pd_rem_ne _ _ _ _ _ z]
  exact ⟨fun ⟨a, h1, h2⟩ => ⟨a, h1, (key a).mp h2⟩, fun ⟨a, h1, h2⟩ => ⟨a, h1, (key a).mpr h2⟩⟩
theorem pd_h_1 {T : Nat} {q : Nat → Nat → Nat} {l t u : Nat} (hu : u < T) (e : q l t = 1) : pd_rem T q l t l u = 1 → q l u = 2 ∨ (q l u = 1 ∧ u ≠ t) := fun h => by
  by_cases g : q l t < q l u
  · rw [pd_rem_gt _ _ _ _ hu g] at h; omega
  · by_cases y : u = t
    · rw [y, pd_rem_t] at h; omega
    · rw [pd_rem_le _ _ _ _ y (by omega)] at h; omega
theorem pd_R_hold0 {x T L : Nat} {q : Nat → Nat → Nat} {m : Nat → Nat → Int32} {s st hd : Nat → Int32} {l t : Nat} (h : pd_R x T L q m s st hd) (hl : l < L) (ht : t < T) (e : q l t = 1) (hn : ∀ u, u < T → q l u ≠ 2) :
    pd_R x T L (pd_rem T q l t) m s st (upd hd l (-1)) := by
  have hQ := h.1.1 l hl
  refine ⟨(pd_h_none h.1 hl ht e hn).2 ▸ pd_G_rem h.1 hl ht (by omega), fun a ha => ?_, fun u hu n => pd_S_eqv (pd_h_W hu e (hn u hu)) (h.2.2 u hu n)⟩
  by_cases z : a = l
  · rw [z]
    refine ⟨fun u hu e1 => ?_, fun _ => pk_us⟩
    rcases pd_h_1 hu e e1 with c | c
    · exact absurd c (hn u hu)
    · exact absurd (hQ.2.2 u t hu ht (by omega) (by omega)) c.2
  · have H := h.2.1 a ha
    refine ⟨fun u hu e1 => ?_, fun H1 => ?_⟩
    · rw [pk_un z]
      rw [pd_rem_ne _ _ _ _ _ z] at e1
      exact H.1 u hu e1
    · rw [pk_un z]
      exact H.2 (fun u hu e1 => H1 u hu (by rw [pd_rem_ne _ _ _ _ _ z]; exact e1))
theorem pd_R_hold1 {x T L : Nat} {q : Nat → Nat → Nat} {m : Nat → Nat → Int32} {s st st' hd : Nat → Int32} {l t n : Nat} (h : pd_R x T L q m s st hd) (hl : l < L) (ht : t < T) (e : q l t = 1) (hn : n < T) (en : q l n = 2) (nx : n ≠ x)
    (w1 : pd_W L (pd_rem T q l t) n → st' = st) (w0 : ¬ pd_W L (pd_rem T q l t) n → st' = upd st n 1) :
    pd_R x T L (pd_rem T q l t) (pd_set m l n 0) s st' (upd hd l (nI n)) := by
  have hQ := h.1.1 l hl
  have i2 : ∀ u, u < T → q l u = 2 → u = n := fun u hu z => hQ.2.2 u n hu hn (by omega) (by omega)
  refine ⟨(pd_h_next h.1 hl ht e hn en).2 ▸ pd_G_rem h.1 hl ht (by omega), fun a ha => ?_, fun u hu ne => ?_⟩
  · by_cases z : a = l
    · rw [z]
      refine ⟨fun u hu e1 => ?_, fun H1 => ?_⟩
      · rw [pk_us]
        rcases pd_h_1 hu e e1 with c | c
        · rw [i2 u hu c]
        · exact absurd (hQ.2.2 u t hu ht (by omega) (by omega)) c.2
      · exact absurd (by rw [pd_rem_gt _ _ _ _ hn (by omega), en]) (H1 n hn)
    · have H := h.2.1 a ha
      refine ⟨fun u hu e1 => ?_, fun H1 => ?_⟩
      · rw [pk_un z]
        rw [pd_rem_ne _ _ _ _ _ z] at e1
        exact H.1 u hu e1
      · rw [pk_un z]
        exact H.2 (fun u hu e1 => H1 u hu (by rw [pd_rem_ne _ _ _ _ _ z]; exact e1))
  · by_cases y : u = n
    · rw [y]
      have hs : s n = 1 := h.1.2.2.1 l n hl hn (by omega)
      have hS := h.2.2 n hn nx
      refine ⟨hS.1, fun _ w => ?_, fun _ w => ?_, fun z => absurd hs z⟩
      · rw [w1 w]
        exact hS.2.1 hs ⟨l, hl, by omega⟩
      · rw [w0 w]
        exact pk_us
    · have hS := pd_S_eqv (pd_h_W (L := L) hu e (fun c => y (i2 u hu c))) (h.2.2 u hu ne)
      by_cases w : pd_W L (pd_rem T q l t) n
      · rw [w1 w]; exact hS
      · rw [w0 w]
        unfold pd_S
        rw [pk_un y]
        exact hS
/-! t withdraws from l: its state anew -/
theorem pd_R_with {T L : Nat} {q : Nat → Nat → Nat} {m : Nat → Nat → Int32} {s st st' hd : Nat → Int32} {l t : Nat} (hT : T ≤ 8) (h : pd_R 8 T L q m s st hd) (hl : l < L) (ht : t < T) (e : 2 ≤ q l t)
    (w1 : pd_W L (pd_rem T q l t) t → st' = st) (w0 : ¬ pd_W L (pd_rem T q l t) t → st' = upd st t 1) :
    pd_R 8 T L (pd_rem T q l t) (pd_set m l t 0) s st' hd := by
  have h1 := pd_R_queued (pd_R_any t hT h) hl ht e
  have hs : s t = 1 := h.1.2.2.1 l t hl ht (by omega)
  have hS := h.2.2 t ht (by omega)
  refine ⟨h1.1, h1.2.1, fun u hu _ => ?_⟩
  by_cases y : u = t
  · rw [y]
    refine ⟨hS.1, fun _ w => ?_, fun _ w => ?_, fun z => absurd hs z⟩
    · rw [w1 w]
      exact hS.2.1 hs ⟨l, hl, e⟩
    · rw [w0 w]
      exact pk_us
  · have h2 := h1.2.2 u hu y
    by_cases w : pd_W L (pd_rem T q l t) t
    · rw [w1 w]; exact h2
    · rw [w0 w]
      unfold pd_S
      rw [pk_un y]
      exact h2
/-! begin, end, request, marks -/
theorem pd_R_begin {T L : Nat} {q : Nat → Nat → Nat} {m : Nat → Nat → Int32} {s st hd : Nat → Int32} {t : Nat} (h : pd_R 8 T L q m s st hd) (ht : t < T) (e : s t ≠ 1) :
    pd_R 8 T L q m (upd s t 1) (upd st t 1) hd := by
  have hz : ∀ l, l < L → q l t = 0 := fun l hl => Classical.byContradiction (fun c => e (h.1.2.2.1 l t hl ht c))
  refine ⟨⟨h.1.1, h.1.2.1, fun l u hl hu c => ?_, h.1.2.2.2⟩, h.2.1, fun u hu n => ?_⟩
  · by_cases y : u = t
    · rw [y]; exact pk_us
    · rw [pk_un y]; exact h.1.2.2.1 l u hl hu c
  · by_cases y : u = t
    · rw [y]
      exact ⟨Or.inr (Or.inl pk_us), fun _ ⟨l, hl, c⟩ => absurd (hz l hl) (by omega), fun _ _ => pk_us, fun c => absurd pk_us c⟩
    · unfold pd_S
      rw [pk_un y, pk_un y]
      exact h.2.2 u hu n
theorem pd_R_end {T L : Nat} {q : Nat → Nat → Nat} {m : Nat → Nat → Int32} {s st hd : Nat → Int32} {t : Nat} {v : Int32} (h : pd_R t T L q m s st hd) (hz : ∀ l, l < L → q l t = 0) (hv : v = 0 ∨ v = 3) :
    pd_R 8 T L q m (upd s t v) (upd st t v) hd := by
  refine ⟨⟨h.1.1, h.1.2.1, fun l u hl hu c => ?_, h.1.2.2.2⟩, h.2.1, fun u hu _ => ?_⟩
  · by_cases y : u = t
    · rw [y] at c; exact absurd (hz l hl) c
    · rw [pk_un y]; exact h.1.2.2.1 l u hl hu c
  · by_cases y : u = t
    · rw [y]
      unfold pd_S
      rw [pk_us, pk_us]
      have v1 : v ≠ 1 := by rcases hv with z | z <;> rw [z] <;> decide
      exact ⟨hv.elim Or.inl (fun z => Or.inr (Or.inr z)), fun c => absurd c v1, fun c => absurd c v1, fun _ => rfl⟩
    · unfold pd_S
      rw [pk_un y, pk_un y]
      exact h.2.2 u hu y
theorem pd_G_set {T L : Nat} {q : Nat → Nat → Nat} {m : Nat → Nat → Int32} {s : Nat → Int32} {l t : Nat} (hT : T ≤ 8) (h : pd_G T L q m s) (hl : l < L) (ht : t < T) (e : q l t = 0) (hs : s t = 1) :
    pd_G T L (pd_set q l t (pd_n T (q l) + 1)) m s := by
  refine ⟨fun a ha => ?_, fun a b ha hb hm => ?_, fun a b ha hb hn => ?_, fun a b => ?_⟩
  · by_cases z : a = l
    · rw [z]
      exact pd_Q_add (h.1 l hl) ht e _ (pd_set_at _ _ _ _) (fun b hb => pd_set_ne _ _ _ _ (fun c => hb c.2))
    · have : pd_set q l t (pd_n T (q l) + 1) a = q a := by funext b; exact pd_set_ne _ _ _ _ (fun c => z c.1)
      rw [this]
      exact h.1 a ha
  · have := h.2.1 a b ha hb hm
    rw [pd_set_ne _ _ _ _ (fun c => by rw [c.1, c.2] at this; omega)]
    exact this
  · by_cases c : a = l ∧ b = t
    · rw [c.2]; exact hs
    · rw [pd_set_ne _ _ _ _ c] at hn
      exact h.2.2.1 a b ha hb hn
  · by_cases c : a = l ∧ b = t
    · rw [c.1, c.2, pd_set_at]
      have := pd_n_le T (q l)
      omega
    · rw [pd_set_ne _ _ _ _ c]; exact h.2.2.2 a b
theorem pd_n_0 {T : Nat} {f : Nat → Nat} (hQ : pd_Q T f) (h : ∀ u, u < T → f u ≠ 1) : pd_n T f = 0 := by
  apply Nat.eq_zero_of_not_pos
  intro c
  obtain ⟨u, hu, e⟩ := hQ.2.1 1 (by omega) c
  exact h u hu e
theorem pd_R_grant {T L : Nat} {q : Nat → Nat → Nat} {m : Nat → Nat → Int32} {s st hd : Nat → Int32} {l t : Nat} (hT : T ≤ 8) (h : pd_R 8 T L q m s st hd) (hl : l < L) (ht : t < T) (e : q l t = 0) (hs : s t = 1) (hn : ∀ u, u < T → q l u ≠ 1) :
    pd_R 8 T L (pd_set q l t 1) m s st (upd hd l (nI t)) := by
  have n0 := pd_n_0 (h.1.1 l hl) hn
  have hG := pd_G_set hT h.1 hl ht e hs
  rw [n0] at hG
  refine ⟨hG, fun a ha => ?_, fun u hu n => pd_S_eqv ?_ (h.2.2 u hu n)⟩
  · by_cases z : a = l
    · rw [z]
      refine ⟨fun u hu e1 => ?_, fun H1 => absurd (pd_set_at _ _ _ _) (H1 t ht)⟩
      rw [pk_us]
      by_cases y : u = t
      · rw [y]
      · rw [pd_set_ne _ _ _ _ (fun c => y c.2)] at e1
        exact absurd e1 (hn u hu)
    · have H := h.2.1 a ha
      refine ⟨fun u hu e1 => ?_, fun H1 => ?_⟩
      · rw [pk_un z]
        rw [pd_set_ne _ _ _ _ (fun c => z c.1)] at e1
        exact H.1 u hu e1
      · rw [pk_un z]
        exact H.2 (fun u hu e1 => H1 u hu (by rw [pd_set_ne _ _ _ _ (fun c => z c.1)]; exact e1))
  · have key : ∀ a, 2 ≤ pd_set q l t 1 a u ↔ 2 ≤ q a u := fun a => by
      by_cases c : a = l ∧ u = t
      · rw [c.1, c.2, pd_set_at]; omega
      · rw [pd_set_ne _ _ _ _ c]
    exact ⟨fun ⟨a, h1, h2⟩ => ⟨a, h1, (key a).mp h2⟩, fun ⟨a, h1, h2⟩ => ⟨a, h1, (key a).mpr h2⟩⟩
theorem pd_R_queue {T L : Nat} {q : Nat → Nat → Nat} {m : Nat → Nat → Int32} {s st hd : Nat → Int32} {l t : Nat} (hT : T ≤ 8) (h : pd_R 8 T L q m s st hd) (hl : l < L) (ht : t < T) (e : q l t = 0) (hs : s t = 1) (n1 : 1 ≤ pd_n T (q l)) :
    pd_R 8 T L (pd_set q l t (pd_n T (q l) + 1)) m s (upd st t 2) hd := by
  refine ⟨pd_G_set hT h.1 hl ht e hs, fun a ha => ?_, fun u hu n => ?_⟩
  · have H := h.2.1 a ha
    have key : ∀ u, u < T → (pd_set q l t (pd_n T (q l) + 1) a u = 1 ↔ q a u = 1) := fun u hu => by
      by_cases c : a = l ∧ u = t
      · rw [c.1, c.2, pd_set_at]; omega
      · rw [pd_set_ne _ _ _ _ c]
    exact ⟨fun u hu e1 => H.1 u hu ((key u hu).mp e1), fun H1 => H.2 (fun u hu e1 => H1 u hu ((key u hu).mpr e1))⟩
  · by_cases y : u = t
    · rw [y]
      have w : pd_W L (pd_set q l t (pd_n T (q l) + 1)) t := ⟨l, hl, by rw [pd_set_at]; omega⟩
      exact ⟨Or.inr (Or.inl hs), fun _ _ => pk_us, fun _ c => absurd w c, fun c => absurd hs c⟩
    · have key : ∀ a, 2 ≤ pd_set q l t (pd_n T (q l) + 1) a u ↔ 2 ≤ q a u := fun a => by rw [pd_set_ne _ _ _ _ (fun c => y c.2)]
      have w : pd_W L (pd_set q l t (pd_n T (q l) + 1)) u ↔ pd_W L q u := ⟨fun ⟨a, h1, h2⟩ => ⟨a, h1, (key a).mp h2⟩, fun ⟨a, h1, h2⟩ => ⟨a, h1, (key a).mpr h2⟩⟩
      have hS := pd_S_eqv w (h.2.2 u hu n)
      unfold pd_S
      rw [pk_un y]
      exact hS
theorem pd_R_mark {x T L : Nat} {q : Nat → Nat → Nat} {m m' : Nat → Nat → Int32} {s st hd : Nat → Int32} (h : pd_R x T L q m s st hd) (hm : ∀ l t, m' l t ≠ 0 → m l t ≠ 0 ∨ 2 ≤ q l t) : pd_R x T L q m' s st hd :=
  ⟨⟨h.1.1, fun l t hl ht c => (hm l t c).elim (fun y => h.1.2.1 l t hl ht y) (fun y => y), h.1.2.2.1, h.1.2.2.2⟩, h.2.1, h.2.2⟩
/-! edges -/
def pd_E (T L : Nat) (q : Nat → Nat → Nat) (m : Nat → Nat → Int32) (a b : Nat) : Prop := a < T ∧ b < T ∧ ∃ l, l < L ∧ m l a ≠ 0 ∧ q l b ≠ 0 ∧ q l b < q l a
def pd_E1 (T L : Nat) (q : Nat → Nat → Nat) (a b : Nat) : Prop := a < T ∧ b < T ∧ ∃ l, l < L ∧ q l b ≠ 0 ∧ q l b < q l a
theorem pd_E_lt (T L : Nat) (q : Nat → Nat → Nat) (m : Nat → Nat → Int32) (a b : Nat) (h : pd_E T L q m a b) : b < T := h.2.1
theorem pd_E_live {T L : Nat} {q : Nat → Nat → Nat} {m : Nat → Nat → Int32} {s : Nat → Int32} (h : pd_G T L q m s) {a b : Nat} (e : pd_E T L q m a b) : s a = 1 ∧ s b = 1 := by
  obtain ⟨ha, hb, l, hl, _, h2, h3⟩ := e
  exact ⟨h.2.2.1 l a hl ha (by omega), h.2.2.1 l b hl hb h2⟩
/-- who is reached is live, within P, and so is where it began -/
theorem pd_RC_live {T L : Nat} {q : Nat → Nat → Nat} {m : Nat → Nat → Int32} {s : Nat → Int32} {P : Nat → Prop} (h : pd_G T L q m s) {t u : Nat} (e : pd_RC (pd_E T L q m) P t u) : s t = 1 ∧ s u = 1 ∧ P u ∧ u < T :=
  e (fun x => s t = 1 ∧ s x = 1 ∧ P x ∧ x < T) ⟨fun x hx px => ⟨(pd_E_live h hx).1, (pd_E_live h hx).2, px, hx.2.1⟩, fun _ x hw hx px => ⟨hw.1, (pd_E_live h hx).2, px, hx.2.1⟩⟩
/-! the lowest -/
def pd_lt (pr : Nat → Int32) (a b : Nat) : Prop := pr a < pr b ∨ (pr a = pr b ∧ a < b)
noncomputable def pd_low (C : Nat → Prop) (pr : Nat → Int32) : Nat → Int32
  | 0 => -1
  | n + 1 => @ite Int32 (C n ∧ (pd_low C pr n = -1 ∨ pd_lt pr n (pd_low C pr n).toNatClampNeg)) (Classical.propDecidable _) (nI n) (pd_low C pr n)
theorem pd_low_t {C : Nat → Prop} {pr : Nat → Int32} {n : Nat} (h : C n ∧ (pd_low C pr n = -1 ∨ pd_lt pr n (pd_low C pr n).toNatClampNeg)) : pd_low C pr (n + 1) = nI n := by
  rw [pd_low]
  exact if_pos h
theorem pd_low_f {C : Nat → Prop} {pr : Nat → Int32} {n : Nat} (h : ¬ (C n ∧ (pd_low C pr n = -1 ∨ pd_lt pr n (pd_low C pr n).toNatClampNeg))) : pd_low C pr (n + 1) = pd_low C pr n := by
  rw [pd_low]
  exact if_neg h
theorem pd_low_is (C : Nat → Prop) (pr : Nat → Int32) : ∀ n, n ≤ 8 → (pd_low C pr n = -1 ∧ ∀ t, t < n → ¬ C t) ∨ (∃ a, a < n ∧ pd_low C pr n = nI a ∧ C a) := by
  intro n
  induction n with
  | zero => intro _; exact Or.inl ⟨rfl, fun t ht => by omega⟩
  | succ n ih =>
    intro hn
    by_cases h : C n ∧ (pd_low C pr n = -1 ∨ pd_lt pr n (pd_low C pr n).toNatClampNeg)
    · exact Or.inr ⟨n, by omega, pd_low_t h, h.1⟩
    · rw [pd_low_f h]
      rcases ih (by omega) with ⟨e, c⟩ | ⟨a, ha, e, c⟩
      · refine Or.inl ⟨e, fun t ht => ?_⟩
        by_cases y : t = n
        · rw [y]; exact fun z => h ⟨z, Or.inl e⟩
        · exact c t (by omega)
      · exact Or.inr ⟨a, by omega, e, c⟩
end
section
/-! the reference's place of a place, and sets as bits -/
def pd_v : Nat → Int32
  | 0 => -1
  | k + 1 => nI k
theorem pd_v_none : ∀ k, k < 16 → (pd_v k = -1 ↔ k = 0) := by decide +kernel
theorem pd_v_zero : ∀ k, k < 16 → (pd_v k = 0 ↔ k = 1) := by decide +kernel
theorem pd_v_le0 : ∀ k, k < 16 → (pd_v k ≤ 0 ↔ ¬ 2 ≤ k) := by decide +kernel
theorem pd_v_gt0 : ∀ k, k < 16 → (0 < pd_v k ↔ 2 ≤ k) := by decide +kernel
theorem pd_v_le : ∀ a, a < 16 → ∀ b, b < 16 → (pd_v a ≤ pd_v b ↔ ¬ b < a) := by decide +kernel
theorem pd_v_lt : ∀ a, a < 16 → ∀ b, b < 16 → (pd_v a < pd_v b ↔ a < b) := by decide +kernel
theorem pd_v_eq : ∀ a, a < 16 → ∀ b, b < 16 → (pd_v a = nI b ↔ a = b + 1) := by decide +kernel
theorem pd_v_dec (k : Nat) (h : 0 < k) : pd_v k + (-1) = pd_v (k - 1) := by
  rcases k with _ | _ | k
  · omega
  · decide +kernel
  · exact pk_m1 k
theorem pd_has (r : Int32) (t : Nat) (ht : t < 32) : (r &&& ((1 : Int32) <<< (nI t &&& 31))) = 0 ↔ bt r t = false := by
  rw [← Int32.toBitVec_inj, Int32.toBitVec_and, nf_sh t ht, BitVec.and_twoPow]
  show (if r.toBitVec.getLsbD t = true then BitVec.twoPow 32 t else 0#32) = 0#32 ↔ r.toBitVec.getLsbD t = false
  cases r.toBitVec.getLsbD t
  · exact ⟨fun _ => rfl, fun _ => rfl⟩
  · exact ⟨fun z => absurd ((if_pos rfl).symm.trans z) (nf_tp t ht), fun z => nomatch z⟩
theorem pd_bit {u i : Nat} (hu : u < 32) : bt ((1 : Int32) <<< (nI u &&& 31)) i = decide (i = u) := by
  unfold bt
  rw [nf_sh u hu, BitVec.getLsbD_twoPow]
  by_cases h : i = u
  · subst h; simp [hu]
  · simp [h, Ne.symm h]
theorem pd_ix8 (l t : Nat) : nI l * 8 + nI t = nI (l * 8 + t) := by
  rw [show (8 : Int32) = nI 8 from rfl, pk_mul, nI_add]
theorem pd_ix8' (l : Nat) : nI l * 8 = nI (l * 8) := by
  rw [show (8 : Int32) = nI 8 from rfl, pk_mul]
theorem pd_ix12 (l t : Nat) : nI t * 12 + nI l = nI (t * 12 + l) := by
  rw [show (12 : Int32) = nI 12 from rfl, pk_mul, nI_add]
theorem pd_b1 : vp_nar .boolean 1 = 1 := rfl
theorem pd_b0 : vp_nar .boolean 0 = 0 := rfl
/-! t leaves all locks at which its place is such, one lock after another -/
def pd_c1 : Nat → Bool := fun k => decide (2 ≤ k)
def pd_c2 : Nat → Bool := fun k => decide (k = 1)
def pd_it (c : Nat → Bool) (T t : Nat) (q : Nat → Nat → Nat) (m : Nat → Nat → Int32) : Nat → (Nat → Nat → Nat) × (Nat → Nat → Int32)
  | 0 => (q, m)
  | j + 1 => if c ((pd_it c T t q m j).1 j t) = true then (pd_rem T (pd_it c T t q m j).1 j t, pd_mrem T (pd_it c T t q m j).1 (pd_it c T t q m j).2 j t) else pd_it c T t q m j
theorem pd_it_t {c : Nat → Bool} {T t : Nat} {q : Nat → Nat → Nat} {m : Nat → Nat → Int32} {j : Nat} (h : c ((pd_it c T t q m j).1 j t) = true) :
    pd_it c T t q m (j + 1) = (pd_rem T (pd_it c T t q m j).1 j t, pd_mrem T (pd_it c T t q m j).1 (pd_it c T t q m j).2 j t) := by
  rw [pd_it, if_pos h]
theorem pd_it_f {c : Nat → Bool} {T t : Nat} {q : Nat → Nat → Nat} {m : Nat → Nat → Int32} {j : Nat} (h : ¬ c ((pd_it c T t q m j).1 j t) = true) :
    pd_it c T t q m (j + 1) = pd_it c T t q m j := by
  rw [pd_it, if_neg h]
theorem pd_c1_iff {k : Nat} : pd_c1 k = true ↔ 2 ≤ k := decide_eq_true_iff
theorem pd_c2_iff {k : Nat} : pd_c2 k = true ↔ k = 1 := decide_eq_true_iff
/-- places stay small -/
theorem pd_rem_lt {T : Nat} {q : Nat → Nat → Nat} {l t : Nat} (h : ∀ a b, q a b < 16) : ∀ a b, pd_rem T q l t a b < 16 := fun a b => by
  have h1 := h l b
  have h2 := h a b
  unfold pd_rem
  split
  · split
    · omega
    · split <;> omega
  · exact h2
theorem pd_it_lt {c : Nat → Bool} {T t : Nat} {q : Nat → Nat → Nat} {m : Nat → Nat → Int32} (h : ∀ a b, q a b < 16) : ∀ j, ∀ a b, (pd_it c T t q m j).1 a b < 16 := by
  intro j
  induction j with
  | zero => exact h
  | succ j ih =>
    by_cases z : c ((pd_it c T t q m j).1 j t) = true
    · rw [pd_it_t z]; exact pd_rem_lt ih
    · rw [pd_it_f z]; exact ih
/-- after the first loop t is in no queue -/
theorem pd_it1 {T t : Nat} {q : Nat → Nat → Nat} {m : Nat → Nat → Int32} : ∀ j, ∀ l, l < j → (pd_it pd_c1 T t q m j).1 l t < 2 := by
  intro j
  induction j with
  | zero => intro l hl; omega
  | succ j ih =>
    intro l hl
    by_cases z : pd_c1 ((pd_it pd_c1 T t q m j).1 j t) = true
    · rw [pd_it_t z]
      by_cases e : l = j
      · rw [e]
        show pd_rem T _ j t j t < 2
        rw [pd_rem_t]; omega
      · show pd_rem T _ j t l t < 2
        rw [pd_rem_ne _ _ _ _ _ e]
        exact ih l (by omega)
    · rw [pd_it_f z]
      by_cases e : l = j
      · rw [e]
        rw [pd_c1_iff] at z
        omega
      · exact ih l (by omega)
/-- after the second it has no place at all -/
theorem pd_it2 {T t L : Nat} {q : Nat → Nat → Nat} {m : Nat → Nat → Int32} (h : ∀ l, l < L → q l t < 2) : ∀ j, j ≤ L → ∀ l, l < L → (pd_it pd_c2 T t q m j).1 l t < 2 ∧ (l < j → (pd_it pd_c2 T t q m j).1 l t = 0) := by
  intro j
  induction j with
  | zero => intro _ l hl; exact ⟨h l hl, fun z => by omega⟩
  | succ j ih =>
    intro hj l hl
    have i1 := ih (by omega) l hl
    by_cases z : pd_c2 ((pd_it pd_c2 T t q m j).1 j t) = true
    · rw [pd_it_t z]
      by_cases e : l = j
      · rw [e]
        show pd_rem T _ j t j t < 2 ∧ (_ → pd_rem T _ j t j t = 0)
        rw [pd_rem_t]
        exact ⟨by omega, fun _ => rfl⟩
      · show pd_rem T _ j t l t < 2 ∧ (_ → pd_rem T _ j t l t = 0)
        rw [pd_rem_ne _ _ _ _ _ e]
        exact ⟨i1.1, fun y => i1.2 (by omega)⟩
    · rw [pd_it_f z]
      refine ⟨i1.1, fun y => ?_⟩
      by_cases e : l = j
      · rw [e] at i1
        rw [pd_c2_iff] at z
        rw [e]
        omega
      · exact i1.2 (by omega)
/-- all that a transaction's end does to places and marks -/
def pd_end (T L t : Nat) (q : Nat → Nat → Nat) (m : Nat → Nat → Int32) : (Nat → Nat → Nat) × (Nat → Nat → Int32) :=
  pd_it pd_c2 T t (pd_it pd_c1 T t q m L).1 (pd_it pd_c1 T t q m L).2 L
theorem pd_end_0 {T L t : Nat} {q : Nat → Nat → Nat} {m : Nat → Nat → Int32} (l : Nat) (hl : l < L) : (pd_end T L t q m).1 l t = 0 :=
  (pd_it2 (fun l hl => pd_it1 L l hl) L (Nat.le_refl L) l hl).2 hl
/-! marks -/
def pd_mk (p : Nat → Nat → Bool) (m : Nat → Nat → Int32) : Nat → Nat → Int32 := fun a b => if p a b = true then 1 else m a b
theorem pd_mk_s {p p' : Nat → Nat → Bool} {m : Nat → Nat → Int32} {l t : Nat} (h : ∀ a b, p' a b = true ↔ (a = l ∧ b = t) ∨ p a b = true) : pd_set (pd_mk p m) l t 1 = pd_mk p' m := by
  funext a b
  show (if a = l ∧ b = t then 1 else if p a b = true then 1 else m a b) = (if p' a b = true then 1 else m a b)
  have h1 := h a b
  by_cases c : a = l ∧ b = t
  · rw [if_pos c, if_pos (h1.mpr (Or.inl c))]
  · rw [if_neg c]
    by_cases d : p a b = true
    · rw [if_pos d, if_pos (h1.mpr (Or.inr d))]
    · rw [if_neg d, if_neg (fun z => (h1.mp z).elim c d)]
theorem pd_mk_c {p p' : Nat → Nat → Bool} {m : Nat → Nat → Int32} (h : ∀ a b, p' a b = true ↔ p a b = true) : pd_mk p m = pd_mk p' m := by
  funext a b
  show (if p a b = true then 1 else m a b) = (if p' a b = true then 1 else m a b)
  have h1 := h a b
  by_cases d : p a b = true
  · rw [if_pos d, if_pos (h1.mpr d)]
  · rw [if_neg d, if_neg (fun z => d (h1.mp z))]
theorem pd_mk_0 (m : Nat → Nat → Int32) : pd_mk (fun _ _ => false) m = m := rfl
theorem pd_mk_m {p : Nat → Nat → Bool} {m : Nat → Nat → Int32} {l t : Nat} (h : pd_mk p m l t ≠ 0) : m l t ≠ 0 ∨ p l t = true := by
  by_cases c : p l t = true
  · exact Or.inr c
  · exact Or.inl (fun z => h (by show (if p l t = true then 1 else m l t) = 0; rw [if_neg c, z]))
end
section
/-! one pass over all rows, cell by cell: f0 is the set as the pass began, f as it is at row j, cell i -/
def pd_pj (T : Nat) (E : Nat → Nat → Prop) (P : Nat → Prop) (t : Nat) (f0 : Nat → Bool) (j i : Nat) (f : Nat → Bool) : Prop :=
  (∀ u, u < T → f0 u = true → f u = true) ∧
  (∀ S : Nat → Prop, pd_cl E P t S → (∀ u, u < T → f0 u = true → S u) → ∀ u, u < T → f u = true → S u) ∧
  (∀ w, w < T → w < j → (w = t ∨ f0 w = true) → ∀ x, E w x → P x → f x = true) ∧
  (∀ x, x < i → (j = t ∨ f0 j = true) → E j x → P x → f x = true)
theorem pd_pj_0 {T : Nat} {E : Nat → Nat → Prop} {P : Nat → Prop} {t : Nat} (f0 : Nat → Bool) : pd_pj T E P t f0 0 0 f0 :=
  ⟨fun _ _ h => h, fun _ _ h => h, fun _ _ h => by omega, fun _ h => by omega⟩
theorem pd_pj_row {T : Nat} {E : Nat → Nat → Prop} {P : Nat → Prop} {t : Nat} {f0 f : Nat → Bool} {j : Nat} (hE : ∀ a b, E a b → b < T) (h : pd_pj T E P t f0 j T f) : pd_pj T E P t f0 (j + 1) 0 f :=
  ⟨h.1, h.2.1, fun w hw hj c x hx px => by
    by_cases e : w = j
    · subst e; exact h.2.2.2 x (hE _ _ hx) c hx px
    · exact h.2.2.1 w hw (by omega) c x hx px, fun _ h => by omega⟩
theorem pd_pj_t {T : Nat} {E : Nat → Nat → Prop} {P : Nat → Prop} {t : Nat} {f0 f f' : Nat → Bool} {j i : Nat} (hE : ∀ a b, E a b → b < T) (h : pd_pj T E P t f0 j i f) (hj : j < T) (c : j = t ∨ f j = true) (e : E j i) (p : P i)
    (hi : f' i = true) (hf : ∀ x, x < T → x ≠ i → f' x = f x) : pd_pj T E P t f0 j (i + 1) f' := by
  have up : ∀ x, x < T → f x = true → f' x = true := fun x hx y => by
    by_cases z : x = i
    · rw [z]; exact hi
    · rw [hf x hx z]; exact y
  refine ⟨fun u hu y => up u hu (h.1 u hu y), fun S hS h0 u hu y => ?_, fun w hw hwj d x hx px => up x (hE _ _ hx) (h.2.2.1 w hw hwj d x hx px), fun x hx d ex px => ?_⟩
  · by_cases z : u = i
    · rw [z]
      rcases c with c | c
      · rw [c] at e; exact hS.1 i e p
      · exact hS.2 j i (h.2.1 S hS h0 j hj c) e p
    · rw [hf u hu z] at y
      exact h.2.1 S hS h0 u hu y
  · by_cases z : x = i
    · rw [z]; exact hi
    · exact up x (hE _ _ ex) (h.2.2.2 x (by omega) d ex px)
theorem pd_pj_f {T : Nat} {E : Nat → Nat → Prop} {P : Nat → Prop} {t : Nat} {f0 f : Nat → Bool} {j i : Nat} (h : pd_pj T E P t f0 j i f) (hj : j < T) (n : ¬ ((j = t ∨ f j = true) ∧ E j i ∧ P i)) : pd_pj T E P t f0 j (i + 1) f := by
  refine ⟨h.1, h.2.1, h.2.2.1, fun x hx d ex px => ?_⟩
  by_cases z : x = i
  · rw [z] at ex px
    exact absurd ⟨d.elim Or.inl (fun y => Or.inr (h.1 j hj y)), ex, px⟩ n
  · exact h.2.2.2 x (by omega) d ex px
/-- a whole row at once -/
theorem pd_pj_all {T : Nat} {E : Nat → Nat → Prop} {P : Nat → Prop} {t : Nat} {f0 f f' : Nat → Bool} {j : Nat} (hE : ∀ a b, E a b → b < T) (h : pd_pj T E P t f0 j 0 f) (hj : j < T) (c : f j = true)
    (hf : ∀ x, x < T → (f' x = true ↔ f x = true ∨ (E j x ∧ P x))) : pd_pj T E P t f0 (j + 1) 0 f' := by
  have up : ∀ x, x < T → f x = true → f' x = true := fun x hx y => (hf x hx).mpr (Or.inl y)
  refine ⟨fun u hu y => up u hu (h.1 u hu y), fun S hS h0 u hu y => ?_, fun w hw hwj d x hx px => ?_, fun x hx => by omega⟩
  · rcases (hf u hu).mp y with z | z
    · exact h.2.1 S hS h0 u hu z
    · exact hS.2 j u (h.2.1 S hS h0 j hj c) z.1 z.2
  · by_cases z : w = j
    · rw [z] at hx
      exact (hf x (hE _ _ hx)).mpr (Or.inr ⟨hx, px⟩)
    · exact up x (hE _ _ hx) (h.2.2.1 w hw (by omega) d x hx px)
theorem pd_pj_no {T : Nat} {E : Nat → Nat → Prop} {P : Nat → Prop} {t : Nat} {f0 f : Nat → Bool} {j : Nat} (hb : ∀ x, E t x → P x → f0 x = true) (hE : ∀ a b, E a b → b < T) (h : pd_pj T E P t f0 j 0 f) (hj : j < T) (c : ¬ f j = true) : pd_pj T E P t f0 (j + 1) 0 f := by
  refine ⟨h.1, h.2.1, fun w hw hwj d x hx px => ?_, fun x hx => by omega⟩
  by_cases z : w = j
  · rcases d with y | y
    · rw [y] at hx
      exact h.1 x (hE _ _ hx) (hb x hx px)
    · rw [z] at y
      exact absurd (h.1 j hj y) c
  · exact h.2.2.1 w hw (by omega) d x hx px
/-- what holds between the passes -/
def pd_po (T : Nat) (E : Nat → Nat → Prop) (P : Nat → Prop) (t k : Nat) (f : Nat → Bool) : Prop :=
  (∀ u, u < T → f u = true → pd_RC E P t u) ∧ (pd_cl E P t (pd_In T f) ∨ k ≤ pd_cnt f T)
theorem pd_po_s {T : Nat} {E : Nat → Nat → Prop} {P : Nat → Prop} {t k : Nat} {f0 f : Nat → Bool} (hE : ∀ a b, E a b → b < T) (ht : t < T) (h : pd_po T E P t k f0) (hj : pd_pj T E P t f0 T 0 f) : pd_po T E P t (k + 1) f := by
  refine ⟨hj.2.1 _ (pd_RC_cl E P t) h.1, ?_⟩
  exact pd_pass hE hj.1 hj.2.1 (fun x hx px => hj.2.2.1 t ht ht (Or.inl rfl) x hx px) (fun w x hw y hx px => hj.2.2.1 w hw hw (Or.inr y) x hx px) h.2
theorem pd_po_e {T : Nat} {E : Nat → Nat → Prop} {P : Nat → Prop} {t : Nat} {f : Nat → Bool} (hE : ∀ a b, E a b → b < T) (h : pd_po T E P t T f) (u : Nat) (hu : u < T) : f u = true ↔ pd_RC E P t u :=
  pd_RC_is (pd_passed hE h.2) h.1 u hu
theorem pd_po_0 {T : Nat} {E : Nat → Nat → Prop} {P : Nat → Prop} {t : Nat} {f : Nat → Bool} (h : ∀ u, u < T → f u = false) : pd_po T E P t 0 f :=
  ⟨fun u hu y => absurd ((h u hu).symm.trans y) (by decide), Or.inr (Nat.zero_le _)⟩
/-- the first set of the component: t's targets -/
theorem pd_po_1 {T : Nat} {E : Nat → Nat → Prop} {P : Nat → Prop} {t : Nat} {f : Nat → Bool} (hE : ∀ a b, E a b → b < T) (h : ∀ u, u < T → (f u = true ↔ (E t u ∧ P u))) : pd_po T E P t 1 f := by
  refine ⟨fun u hu y => (pd_RC_cl E P t).1 u ((h u hu).mp y).1 ((h u hu).mp y).2, ?_⟩
  by_cases z : ∃ u, u < T ∧ f u = true
  · obtain ⟨u, hu, y⟩ := z
    exact Or.inr (pd_cnt_pos f T u hu y)
  · refine Or.inl ⟨fun x hx px => ⟨hE _ _ hx, (h x (hE _ _ hx)).mpr ⟨hx, px⟩⟩, fun w x hw => absurd ⟨w, hw.1, hw.2⟩ z⟩
/-! who is on a reported cycle; how many are not live -/
def pd_C (T L : Nat) (q : Nat → Nat → Nat) (m : Nat → Nat → Int32) (t : Nat) : Prop := pd_RC (pd_E T L q m) (fun _ => True) t t
def pd_dead (T : Nat) (s : Nat → Int32) : Nat := pd_cnt (fun t => decide (s t ≠ 1)) T
theorem pd_dead_s {T : Nat} {s : Nat → Int32} {v : Nat} (hv : v < T) (e : s v = 1) : pd_dead T (upd s v 3) = pd_dead T s + 1 := by
  refine pd_cnt_one (fun t => decide (s t ≠ 1)) (fun t => decide (upd s v 3 t ≠ 1)) T v hv ?_ ?_ (fun t _ n => ?_)
  · show decide (s v ≠ 1) = false
    rw [e]; decide
  · show decide (upd s v 3 v ≠ 1) = true
    rw [pk_us]; decide
  · show decide (s t ≠ 1) = decide (upd s v 3 t ≠ 1)
    rw [pk_un n]
theorem pd_dead_all {T : Nat} {s : Nat → Int32} (h : T ≤ pd_dead T s) {t : Nat} (ht : t < T) : s t ≠ 1 :=
  of_decide_eq_true (pd_cnt_full (fun t => decide (s t ≠ 1)) T h t ht)
theorem pd_low_dead {T L : Nat} {q : Nat → Nat → Nat} {m : Nat → Nat → Int32} {s pr : Nat → Int32} (h : pd_G T L q m s) (hT : T ≤ 8) (hd : T ≤ pd_dead T s) : pd_low (pd_C T L q m) pr T = -1 := by
  rcases pd_low_is (pd_C T L q m) pr T hT with z | ⟨a, ha, _, c⟩
  · exact z.1
  · exact absurd (pd_RC_live h c).1 (pd_dead_all hd ha)
end
section
/-! the component's walks: small methods -/
def pd_xp (p : Nat → Nat → Nat) : Nat → Int32 := fun c => nI (p (c / 8) (c % 8))
theorem pd_xp_at (p : Nat → Nat → Nat) {l t : Nat} (ht : t < 8) : pd_xp p (l * 8 + t) = nI (p l t) := by
  unfold pd_xp
  rw [show (l * 8 + t) / 8 = l by omega, show (l * 8 + t) % 8 = t by omega]
theorem pd_xp_upd (p : Nat → Nat → Nat) {l t : Nat} (ht : t < 8) (k : Nat) : upd (pd_xp p) (l * 8 + t) (nI k) = pd_xp (pd_set p l t k) := by
  funext c
  show (if c = l * 8 + t then nI k else nI (p (c / 8) (c % 8))) = nI (if c / 8 = l ∧ c % 8 = t then k else p (c / 8) (c % 8))
  by_cases h : c = l * 8 + t
  · rw [if_pos h, if_pos (by omega : c / 8 = l ∧ c % 8 = t)]
  · rw [if_neg h, if_neg (by omega : ¬ (c / 8 = l ∧ c % 8 = t))]
theorem pd_xp_upd0 (p : Nat → Nat → Nat) {l t : Nat} (ht : t < 8) : upd (pd_xp p) (l * 8 + t) 0 = pd_xp (pd_set p l t 0) := pd_xp_upd p ht 0
theorem pd_n_s1 {f : Nat → Nat} {j : Nat} (h : f j ≠ 0) : pd_n (j + 1) f = pd_n j f + 1 := by
  show pd_cnt _ j + (if decide (f j ≠ 0) = true then 1 else 0) = _
  rw [if_pos (decide_eq_true h)]
  rfl
theorem pd_n_s0 {f : Nat → Nat} {j : Nat} (h : f j = 0) : pd_n (j + 1) f = pd_n j f := by
  show pd_cnt _ j + (if decide (f j ≠ 0) = true then 1 else 0) = _
  rw [if_neg (by rw [h]; decide)]
  rfl
theorem xw_isT_t {T L S : Nat} {n : Int32} {st pr hd vl : Nat → Int32} {p : Nat → Nat → Nat} {m : Nat → Nat → Int32} {post : Int32 → Prop} {t : Nat} (hT : T ≤ 8) (ht : t < T) (hp : post 1) : wpX_isTransaction post (nI T, nI L, nI S, n, st, pr, hd, pd_xp p, pd_x m, vl) (nI t) :=
  br_f (nI_pos (by omega)) (br_f (nI_ge ht (by omega)) hp)
theorem xw_isT_f {T L S : Nat} {n : Int32} {st pr hd vl : Nat → Int32} {p : Nat → Nat → Nat} {m : Nat → Nat → Int32} {post : Int32 → Prop} {x : Int32} (hx : x < 0 ∨ nI T ≤ x) (hp : post 0) : wpX_isTransaction post (nI T, nI L, nI S, n, st, pr, hd, pd_xp p, pd_x m, vl) x := by
  by_cases h0 : x < 0
  · exact br_t h0 hp
  · exact br_f h0 (br_t (hx.resolve_left h0) hp)
theorem xw_isL_t {T L S : Nat} {n : Int32} {st pr hd vl : Nat → Int32} {p : Nat → Nat → Nat} {m : Nat → Nat → Int32} {post : Int32 → Prop} {l : Nat} (hL : L ≤ 12) (hl : l < L) (hp : post 1) : wpX_isLock post (nI T, nI L, nI S, n, st, pr, hd, pd_xp p, pd_x m, vl) (nI l) :=
  br_f (nI_pos (by omega)) (br_f (nI_ge hl (by omega)) hp)
theorem xw_isL_f {T L S : Nat} {n : Int32} {st pr hd vl : Nat → Int32} {p : Nat → Nat → Nat} {m : Nat → Nat → Int32} {post : Int32 → Prop} {x : Int32} (hx : x < 0 ∨ nI L ≤ x) (hp : post 0) : wpX_isLock post (nI T, nI L, nI S, n, st, pr, hd, pd_xp p, pd_x m, vl) x := by
  by_cases h0 : x < 0
  · exact br_t h0 hp
  · exact br_f h0 (br_t (hx.resolve_left h0) hp)
theorem xw_live {T L S : Nat} {n : Int32} {st pr hd vl : Nat → Int32} {p : Nat → Nat → Nat} {m : Nat → Nat → Int32} {post : Int32 → Prop} {t : Nat} (ht : t < 8) (h1 : (st t = 1 ∨ st t = 2) → post 1) (h0 : ¬ (st t = 1 ∨ st t = 2) → post 0) : wpX_isLive post (nI T, nI L, nI S, n, st, pr, hd, pd_xp p, pd_x m, vl) (nI t) := by
  have hi : vp_in (nI t) 8 := vp_in_nI ht (by decide)
  unfold wpX_isLive
  dsimp only
  rw [nI_clamp (n := t) (by omega)]
  refine ⟨hi, ?_⟩
  by_cases a : st t = 1
  · exact br_t a (h1 (Or.inl a))
  · refine br_f a ⟨hi, ?_⟩
    by_cases b : st t = 2
    · exact br_t b (h1 (Or.inr b))
    · exact br_f b (h0 (fun z => z.elim a b))
theorem xw_isQ {T L S : Nat} {n : Int32} {st pr hd vl : Nat → Int32} {p : Nat → Nat → Nat} {m : Nat → Nat → Int32} {post : Int32 → Prop} {l t : Nat} (hb : ∀ a b, p a b < 16) (hl : l < 12) (ht : t < 8) (h1 : p l t ≠ 0 → post 1) (h0 : p l t = 0 → post 0) : wpX_isQueued post (nI T, nI L, nI S, n, st, pr, hd, pd_xp p, pd_x m, vl) (nI t) (nI l) := by
  have := hb l t
  unfold wpX_isQueued
  dsimp only
  rw [pd_ix8, nI_clamp (n := l * 8 + t) (by omega), pd_xp_at p ht]
  refine ⟨vp_in_nI (by omega) (by decide), ?_⟩
  by_cases z : p l t = 0
  · exact br_t (by rw [z]; rfl) (h0 z)
  · exact br_f (nI_ne0 (by omega) (by omega)) (h1 z)
theorem xw_lower {T L S : Nat} {n : Int32} {st pr hd vl : Nat → Int32} {p : Nat → Nat → Nat} {m : Nat → Nat → Int32} {post : Int32 → Prop} {a b : Nat} (ha : a < 8) (hb : b < 8) (h1 : pd_lt pr a b → post 1) (h0 : ¬ pd_lt pr a b → post 0) : wpX_isLower post (nI T, nI L, nI S, n, st, pr, hd, pd_xp p, pd_x m, vl) (nI a) (nI b) := by
  have ia : vp_in (nI a) 8 := vp_in_nI ha (by decide)
  have ib : vp_in (nI b) 8 := vp_in_nI hb (by decide)
  unfold wpX_isLower
  dsimp only
  rw [nI_clamp (n := a) (by omega), nI_clamp (n := b) (by omega)]
  refine ⟨ia, ib, ?_⟩
  by_cases e : pr a = pr b
  · refine br_t e ?_
    by_cases c : b ≤ a
    · refine br_t (nI_le c (by omega)) (h0 (fun z => z.elim (fun y => ?_) (fun y => by omega)))
      rw [e] at y
      exact Int32.lt_irrefl y
    · exact br_f (nI_ge (by omega) (by omega)) (h1 (Or.inr ⟨e, by omega⟩))
  · refine br_f e ⟨ia, ib, ?_⟩
    by_cases c : pr b ≤ pr a
    · exact br_t c (h0 (fun z => z.elim (fun y => absurd c (Int32.not_le.mpr y)) (fun y => e y.1)))
    · exact br_f c (h1 (Or.inl (Int32.not_le.mp c)))
theorem xw_has {post : Int32 → Prop} {r : Int32} {t : Nat} (ht : t < 32) (h1 : bt r t = true → post 1) (h0 : bt r t = false → post 0) : wpX_contains post () r (nI t) := by
  cases e : bt r t with
  | false => exact br_t ((pd_has r t ht).mpr e) (h0 e)
  | true => exact br_f (fun z => by rw [(pd_has r t ht).mp z] at e; exact nomatch e) (h1 e)
theorem xw_enq_l {T L S : Nat} {n : Int32} {st pr hd vl : Nat → Int32} {p : Nat → Nat → Nat} {m : Nat → Nat → Int32} {post : St2 → Prop} {l t : Nat} (hT : T ≤ 8) (hb : ∀ a b, p a b < 16) (hl : l < 12) (ht : t < 8) (hp : post (nI T, nI L, nI S, n, st, pr, hd, pd_xp (pd_set p l t (pd_n T (p l) + 1)), pd_x m, vl)) :
    ∀ d j, j + d = T → wX_enqueue_5 post (nI t) (nI l) (nI T) (nI L) (nI S) n st pr hd (pd_xp p) (pd_x m) vl (d + 1) (nI (pd_n j (p l) + 1)) (nI j) := by
  intro d
  induction d with
  | zero =>
    intro j hj
    have e : j = T := by omega
    subst e
    refine br_t (nI_le (Nat.le_refl _) (by omega)) ?_
    rw [pd_ix8, nI_clamp (n := l * 8 + t) (by omega), pd_xp_upd p ht]
    exact ⟨vp_in_nI (by omega) (by decide), nm_e hp⟩
  | succ d ih =>
    intro j hj
    have i := ih (j + 1) (by omega)
    refine br_f (nI_ge (by omega) (by omega)) (xw_isQ hb hl (by omega) (fun z => br_f (by decide) (nm_r (nI_1 _) (nm_r (nI_1 _) ?_))) (fun z => br_t rfl (nm_r (nI_1 _) ?_)))
    · rw [pd_n_s1 z] at i; exact i
    · rw [pd_n_s0 z] at i; exact i
theorem xw_enqueue {T L S : Nat} {n : Int32} {st pr hd vl : Nat → Int32} {p : Nat → Nat → Nat} {m : Nat → Nat → Int32} {post : St2 → Prop} {l t : Nat} (hT : T ≤ 8) (hb : ∀ a b, p a b < 16) (hl : l < 12) (ht : t < 8) (hp : post (nI T, nI L, nI S, n, st, pr, hd, pd_xp (pd_set p l t (pd_n T (p l) + 1)), pd_x m, vl)) : wpX_enqueue post (nI T, nI L, nI S, n, st, pr, hd, pd_xp p, pd_x m, vl) (nI t) (nI l) :=
  ⟨T + 1, xw_enq_l hT hb hl ht hp T 0 (by omega)⟩
theorem xw_at_l {T L S : Nat} {n : Int32} {st pr hd vl : Nat → Int32} {p : Nat → Nat → Nat} {m : Nat → Nat → Int32} {post : Int32 → Prop} {l k : Nat} (hT : T ≤ 8) (hb : ∀ a b, p a b < 16) (hl : l < 12) (hk : k < 16) (h1 : ∀ t, t < T → p l t = k → post (nI t)) (h0 : (∀ t, t < T → p l t ≠ k) → post (-1)) :
    ∀ d j, j + d = T → (∀ t, t < j → p l t ≠ k) → wX_atPlace_2 post (nI l) (nI k) (nI T) (nI L) (nI S) n st pr hd (pd_xp p) (pd_x m) vl (d + 1) (nI j) := by
  intro d
  induction d with
  | zero =>
    intro j hj h
    exact br_t (nI_le (by omega) (by omega)) (h0 (fun t ht => h t (by omega)))
  | succ d ih =>
    intro j hj h
    have := hb l j
    refine br_f (nI_ge (by omega) (by omega)) ?_
    rw [pd_ix8, nI_clamp (n := l * 8 + j) (by omega), pd_xp_at p (by omega)]
    refine ⟨vp_in_nI (by omega) (by decide), ?_⟩
    by_cases z : p l j = k
    · exact br_t (by rw [z]) (h1 j (by omega) z)
    · refine br_f (fun y => z ((nI_eq (by omega) (by omega)).mp y)) (nm_r (nI_1 _) (ih (j + 1) (by omega) (fun t ht => ?_)))
      by_cases y : t = j
      · rw [y]; exact z
      · exact h t (by omega)
theorem xw_at {T L S : Nat} {n : Int32} {st pr hd vl : Nat → Int32} {p : Nat → Nat → Nat} {m : Nat → Nat → Int32} {post : Int32 → Prop} {l k : Nat} (hT : T ≤ 8) (hb : ∀ a b, p a b < 16) (hl : l < 12) (hk : k < 16) (h1 : ∀ t, t < T → p l t = k → post (nI t)) (h0 : (∀ t, t < T → p l t ≠ k) → post (-1)) :
    wpX_atPlace post (nI T, nI L, nI S, n, st, pr, hd, pd_xp p, pd_x m, vl) (nI l) (nI k) :=
  ⟨T + 1, xw_at_l hT hb hl hk h1 h0 T 0 (by omega) (fun t ht => by omega)⟩
theorem xw_take_l {T L S : Nat} {n : Int32} {st pr hd vl : Nat → Int32} {p : Nat → Nat → Nat} {m : Nat → Nat → Int32} {post : St2 → Prop} {l t : Nat} {m' : Nat → Nat → Int32} (hT : T ≤ 8) (hb : ∀ a b, p a b < 16) (hl : l < 12) (hp : post (nI T, nI L, nI S, n, st, pr, hd, pd_xp (pd_rem T p l t), pd_x (m'), vl)) :
    ∀ d j, j + d = T → wX_takeOut_36 post (nI (l * 8)) (nI (p l t)) (nI T) (nI L) (nI S) n (d + 1) (nI j) st pr hd (pd_xp (pd_rem j p l t)) (pd_x (m')) vl := by
  intro d
  induction d with
  | zero =>
    intro j hj
    have e : j = T := by omega
    subst e
    exact br_t (nI_le (Nat.le_refl _) (by omega)) hp
  | succ d ih =>
    intro j hj
    have i := ih (j + 1) (by omega)
    have hr := pd_rem_lt (T := j) (l := l) (t := t) hb l j
    have ht := hb l t
    refine br_f (nI_ge (by omega) (by omega)) ?_
    rw [nI_add, nI_clamp (n := l * 8 + j) (by omega), pd_xp_at _ (by omega)]
    have hi : vp_in (nI (l * 8 + j)) 96 := vp_in_nI (by omega) (by decide)
    refine ⟨hi, ?_⟩
    by_cases z : p l t < pd_rem j p l t l j
    · refine br_f (nI_ge z (by omega)) ⟨hi, hi, ?_⟩
      have e : nI (pd_rem j p l t l j) - 1 = nI (pd_rem j p l t l j - 1) := by
        obtain ⟨k, hk⟩ : ∃ k, pd_rem j p l t l j = k + 1 := ⟨pd_rem j p l t l j - 1, by omega⟩
        rw [hk, nI_pred] <;> rfl
      rw [e, pd_xp_upd _ (by omega), pd_rem_s1 p l t j z]
      exact nm_e (nm_r (nI_1 _) i)
    · rw [← pd_rem_s0 p l t j z] at i
      exact br_t (nI_le (by omega) (by omega)) (nm_r (nI_1 _) i)
theorem xw_take {T L S : Nat} {n : Int32} {st pr hd vl : Nat → Int32} {p : Nat → Nat → Nat} {m : Nat → Nat → Int32} {post : St2 → Prop} {l t : Nat} (hT : T ≤ 8) (hb : ∀ a b, p a b < 16) (hl : l < 12) (ht : t < 8) (hp : post (nI T, nI L, nI S, n, st, pr, hd, pd_xp (pd_rem T p l t), pd_x (pd_set m l t 0), vl)) : wpX_takeOut post (nI T, nI L, nI S, n, st, pr, hd, pd_xp p, pd_x m, vl) (nI t) (nI l) := by
  have hi : vp_in (nI (l * 8 + t)) 96 := vp_in_nI (by omega) (by decide)
  unfold wpX_takeOut
  dsimp only
  refine nm_r (pd_ix8' l) ?_
  rw [nI_add, nI_clamp (n := l * 8 + t) (by omega), pd_xp_at p ht]
  refine ⟨hi, nm_e ⟨hi, ?_⟩⟩
  rw [pd_xp_upd0 p ht, pd_rem_0]
  refine nm_e ⟨hi, ?_⟩
  rw [pd_x_upd m ht]
  exact nm_e ⟨T + 1, xw_take_l (m := m) hT hb hl hp T 0 (by omega)⟩
end
section
/-! the component's walks: passing on, ending, marking -/
theorem pd_p_lt {q : Nat → Nat → Nat} (h : ∀ a b, q a b < 16) : ∀ a b, pd_p q a b < 16 := fun a b => by
  have := h a b
  show q a b - 1 < 16
  omega
theorem pd_W_p {L : Nat} {q : Nat → Nat → Nat} {t : Nat} : pd_W L q t ↔ ∃ a, a < L ∧ pd_p q a t ≠ 0 :=
  ⟨fun ⟨a, h1, h2⟩ => ⟨a, h1, by show q a t - 1 ≠ 0; omega⟩, fun ⟨a, h1, h2⟩ => ⟨a, h1, by have h3 : q a t - 1 ≠ 0 := h2; omega⟩⟩
theorem xw_run_l {T L S : Nat} {n : Int32} {st pr hd vl : Nat → Int32} {p : Nat → Nat → Nat} {m : Nat → Nat → Int32} {post : St2 → Prop} {t : Nat} (hL : L ≤ 12) (hb : ∀ a b, p a b < 16) (ht : t < 8) (h1 : (∃ a, a < L ∧ p a t ≠ 0) → post (nI T, nI L, nI S, n, st, pr, hd, pd_xp p, pd_x m, vl)) (h0 : (∀ a, a < L → p a t = 0) → post (nI T, nI L, nI S, n, upd st t 1, pr, hd, pd_xp p, pd_x m, vl)) :
    ∀ d j, j + d = L → (∀ a, a < j → p a t = 0) → wX_runIfNotWaiting_2 post (nI t) (nI T) (nI L) (nI S) n st pr hd (pd_xp p) (pd_x m) vl (d + 1) (nI j) := by
  intro d
  induction d with
  | zero =>
    intro j hj h
    refine br_t (nI_le (by omega) (by omega)) ?_
    rw [nI_clamp (n := t) (by omega)]
    exact ⟨vp_in_nI ht (by decide), nm_e (h0 (fun a ha => h a (by omega)))⟩
  | succ d ih =>
    intro j hj h
    refine br_f (nI_ge (by omega) (by omega)) (xw_isQ hb (by omega) ht (fun z => br_f (by decide) (h1 ⟨j, by omega, z⟩)) (fun z => br_t rfl (nm_r (nI_1 _) (ih (j + 1) (by omega) (fun a ha => ?_)))))
    by_cases y : a = j
    · rw [y]; exact z
    · exact h a (by omega)
theorem xw_run {T L S : Nat} {n : Int32} {st pr hd vl : Nat → Int32} {p : Nat → Nat → Nat} {m : Nat → Nat → Int32} {post : St2 → Prop} {t : Nat} (hL : L ≤ 12) (hb : ∀ a b, p a b < 16) (ht : t < 8) (h1 : (∃ a, a < L ∧ p a t ≠ 0) → post (nI T, nI L, nI S, n, st, pr, hd, pd_xp p, pd_x m, vl)) (h0 : (∀ a, a < L → p a t = 0) → post (nI T, nI L, nI S, n, upd st t 1, pr, hd, pd_xp p, pd_x m, vl)) :
    wpX_runIfNotWaiting post (nI T, nI L, nI S, n, st, pr, hd, pd_xp p, pd_x m, vl) (nI t) :=
  ⟨L + 1, xw_run_l hL hb ht h1 h0 L 0 (by omega) (fun a ha => by omega)⟩
theorem xw_pass {T L S : Nat} {n : Int32} {st pr hd vl : Nat → Int32} {p : Nat → Nat → Nat} {m : Nat → Nat → Int32} {post : St2 → Prop} {l : Nat} (hT : T ≤ 8) (hL : L ≤ 12) (hb : ∀ a b, p a b < 16) (hl : l < 12)
    (h0 : (∀ u, u < T → p l u ≠ 1) → post (nI T, nI L, nI S, n, st, pr, upd hd l (-1), pd_xp p, pd_x m, vl))
    (h1 : ∀ u, u < T → p l u = 1 → ∀ st' : Nat → Int32, ((∃ a, a < L ∧ pd_rem T p l u a u ≠ 0) → st' = st) → ((∀ a, a < L → pd_rem T p l u a u = 0) → st' = upd st u 1) → post (nI T, nI L, nI S, n, st', pr, upd hd l (nI u), pd_xp (pd_rem T p l u), pd_x (pd_set m l u 0), vl)) :
    wpX_passOn post (nI T, nI L, nI S, n, st, pr, hd, pd_xp p, pd_x m, vl) (nI l) := by
  have hi : vp_in (nI l) 12 := vp_in_nI hl (by decide)
  unfold wpX_passOn
  dsimp only
  rw [nI_clamp (n := l) (by omega)]
  refine xw_at (k := 1) hT hb hl (by omega) (fun u hu e => ?_) (fun h => ?_)
  · refine ⟨hi, nm_e (br_f (pd_m1 u (by omega)) (xw_take hT hb hl (by omega) ?_))⟩
    dsimp only
    refine xw_run (t := u) hL (pd_rem_lt hb) (by omega) (fun z => ?_) (fun z => ?_)
    · exact h1 u hu e st (fun _ => rfl) (fun y => by obtain ⟨a, ha, c⟩ := z; exact absurd (y a ha) c)
    · exact h1 u hu e (upd st u 1) (fun ⟨a, ha, c⟩ => absurd (z a ha) c) (fun _ => rfl)
  · exact ⟨hi, nm_e (br_t rfl (h0 h))⟩
/-! the end of t -/
theorem xw_end2 {T L S : Nat} {n : Int32} {pr vl : Nat → Int32} {post : St2 → Prop} {t : Nat} {v : Int32} {s : Nat → Int32} {q1 : Nat → Nat → Nat} {m1 : Nat → Nat → Int32} (hT : T ≤ 8) (hL : L ≤ 12) (ht : t < T)
    (K : ∀ st' hd' : Nat → Int32, pd_R t T L (pd_it pd_c2 T t q1 m1 L).1 (pd_it pd_c2 T t q1 m1 L).2 s st' hd' → post (nI T, nI L, nI S, n, upd st' t v, pr, hd', pd_xp (pd_p (pd_it pd_c2 T t q1 m1 L).1), pd_x ((pd_it pd_c2 T t q1 m1 L).2), vl)) :
    ∀ d j (st hd : Nat → Int32), j + d = L → pd_R t T L (pd_it pd_c2 T t q1 m1 j).1 (pd_it pd_c2 T t q1 m1 j).2 s st hd →
      wX_end_33 post (nI t) v (d + 1) (nI j) (nI T) (nI L) (nI S) n st pr hd (pd_xp (pd_p (pd_it pd_c2 T t q1 m1 j).1)) (pd_x ((pd_it pd_c2 T t q1 m1 j).2)) vl := by
  intro d
  induction d with
  | zero =>
    intro j st hd hj R
    have e : j = L := by omega
    subst e
    refine br_t (nI_le (Nat.le_refl _) (by omega)) ?_
    rw [nI_clamp (n := t) (by omega)]
    exact ⟨vp_in_nI (by omega) (by decide), nm_e (K st hd R)⟩
  | succ d ih =>
    intro j st hd hj R
    have hjL : j < L := by omega
    have hq := R.1.2.2.2
    have hH := pd_H_iff hT (R.2.1 j hjL) ht
    refine br_f (nI_ge (by omega) (by omega)) ?_
    rw [nI_clamp (n := j) (by omega)]
    refine ⟨vp_in_nI (by omega) (by decide), ?_⟩
    by_cases e : (pd_it pd_c2 T t q1 m1 j).1 j t = 1
    · have hc : pd_c2 ((pd_it pd_c2 T t q1 m1 j).1 j t) = true := pd_c2_iff.mpr e
      refine br_t (hH.mpr e) (xw_pass hT hL (pd_p_lt hq) (by omega) (fun hn => ?_) (fun u hu eu st' w1 w0 => ?_))
      · have hn2 : ∀ u, u < T → (pd_it pd_c2 T t q1 m1 j).1 j u ≠ 2 := fun u hu z => hn u hu (by show (pd_it pd_c2 T t q1 m1 j).1 j u - 1 = 1; omega)
        have i := ih (j + 1) st (upd hd j (-1)) (by omega)
        rw [pd_it_t hc] at i
        dsimp only at i
        rw [(pd_h_none R.1 hjL ht e hn2).1, (pd_h_none R.1 hjL ht e hn2).2] at i
        exact nm_r (nI_1 _) (i (pd_R_hold0 R hjL ht e hn2))
      · have en : (pd_it pd_c2 T t q1 m1 j).1 j u = 2 := by have z : (pd_it pd_c2 T t q1 m1 j).1 j u - 1 = 1 := eu; omega
        have hN := pd_h_next R.1 hjL ht e hu en
        have i := ih (j + 1) st' (upd hd j (nI u)) (by omega)
        rw [pd_it_t hc] at i
        dsimp only at i
        rw [hN.1, hN.2] at i
        refine nm_r (nI_1 _) (i (pd_R_hold1 R hjL ht e hu en (fun z => by rw [z] at en; omega) (fun w => w1 ?_) (fun w => w0 ?_)))
        · rw [pd_W_p, hN.1] at w
          exact w
        · intro a ha
          rw [← hN.1]
          exact Classical.byContradiction (fun z => w (pd_W_p.mpr ⟨a, ha, z⟩))
    · have hc : ¬ pd_c2 ((pd_it pd_c2 T t q1 m1 j).1 j t) = true := fun z => e (pd_c2_iff.mp z)
      have i := ih (j + 1) st hd (by omega)
      rw [pd_it_f hc] at i
      exact br_f (fun z => e (hH.mp z)) (nm_r (nI_1 _) (i R))
theorem xw_end1 {T L S : Nat} {n : Int32} {st pr hd vl : Nat → Int32} {q : Nat → Nat → Nat} {m : Nat → Nat → Int32} {post : St2 → Prop} {t : Nat} {v : Int32} {s : Nat → Int32} (hT : T ≤ 8) (hL : L ≤ 12) (ht : t < T)
    (K : pd_R t T L (pd_it pd_c1 T t q m L).1 (pd_it pd_c1 T t q m L).2 s st hd → ∃ k, wX_end_33 post (nI t) v k 0 (nI T) (nI L) (nI S) n st pr hd (pd_xp (pd_p (pd_it pd_c1 T t q m L).1)) (pd_x ((pd_it pd_c1 T t q m L).2)) vl) :
    ∀ d j, j + d = L → pd_R t T L (pd_it pd_c1 T t q m j).1 (pd_it pd_c1 T t q m j).2 s st hd →
      wX_end_2 post (nI t) v (d + 1) (nI j) (nI T) (nI L) (nI S) n st pr hd (pd_xp (pd_p (pd_it pd_c1 T t q m j).1)) (pd_x ((pd_it pd_c1 T t q m j).2)) vl := by
  intro d
  induction d with
  | zero =>
    intro j hj R
    have e : j = L := by omega
    subst e
    exact br_t (nI_le (Nat.le_refl _) (by omega)) (K R)
  | succ d ih =>
    intro j hj R
    have hjL : j < L := by omega
    have hq := R.1.2.2.2
    have i := ih (j + 1) (by omega)
    refine br_f (nI_ge (by omega) (by omega)) (xw_isQ (pd_p_lt hq) (by omega) (by omega) (fun z => br_f (by decide) (xw_take hT (pd_p_lt hq) (by omega) (by omega) ?_)) (fun z => br_t rfl (nm_r (nI_1 _) ?_)))
    · have e : 2 ≤ (pd_it pd_c1 T t q m j).1 j t := by have y : (pd_it pd_c1 T t q m j).1 j t - 1 ≠ 0 := z; omega
      rw [pd_it_t (pd_c1_iff.mpr e)] at i
      dsimp only at i
      rw [← pd_q_p e, pd_q_m e] at i
      exact nm_r (nI_1 _) (i (pd_R_queued R hjL ht e))
    · have e : ¬ pd_c1 ((pd_it pd_c1 T t q m j).1 j t) = true := fun y => by
        have y2 := pd_c1_iff.mp y
        have y3 : (pd_it pd_c1 T t q m j).1 j t - 1 = 0 := z
        omega
      rw [pd_it_f e] at i
      exact i R
theorem xw_end {T L S : Nat} {n : Int32} {st pr hd vl : Nat → Int32} {q : Nat → Nat → Nat} {m : Nat → Nat → Int32} {post : St2 → Prop} {t : Nat} {v : Int32} {s : Nat → Int32} (hT : T ≤ 8) (hL : L ≤ 12) (ht : t < T) (hv : v = 0 ∨ v = 3) (R : pd_R 8 T L q m s st hd)
    (K : ∀ st' hd' : Nat → Int32, pd_R 8 T L (pd_end T L t q m).1 (pd_end T L t q m).2 (upd s t v) st' hd' → post (nI T, nI L, nI S, n, st', pr, hd', pd_xp (pd_p (pd_end T L t q m).1), pd_x ((pd_end T L t q m).2), vl)) :
    wpX_end post (nI T, nI L, nI S, n, st, pr, hd, pd_xp (pd_p q), pd_x m, vl) (nI t) v :=
  ⟨L + 1, xw_end1 (q := q) hT hL ht (fun R1 => ⟨L + 1, xw_end2 (q1 := (pd_it pd_c1 T t q m L).1) (m1 := (pd_it pd_c1 T t q m L).2) hT hL ht (fun st' hd' R2 => K (upd st' t v) hd' (pd_R_end R2 (fun l hl => pd_end_0 l hl) hv)) L 0 st hd (by omega) R1⟩) L 0 (by omega) (pd_R_any t hT R)⟩
/-! marks -/
theorem xw_mark_l {T L S : Nat} {n : Int32} {st pr hd vl : Nat → Int32} {p : Nat → Nat → Nat} {m : Nat → Nat → Int32} {post : St2 → Prop} {l : Nat} (hT : T ≤ 8) (hb : ∀ a b, p a b < 16) (hl : l < 12) (hp : post (nI T, nI L, nI S, n, st, pr, hd, pd_xp p, pd_x (pd_mk (fun a b => decide (a = l ∧ b < T ∧ p a b ≠ 0)) m), vl)) :
    ∀ d j, j + d = T → wX_markQueue_2 post (nI l) (nI T) (nI L) (nI S) n (d + 1) (nI j) st pr hd (pd_xp p) (pd_x (pd_mk (fun a b => decide (a = l ∧ b < j ∧ p a b ≠ 0)) m)) vl := by
  intro d
  induction d with
  | zero =>
    intro j hj
    have e : j = T := by omega
    subst e
    exact br_t (nI_le (Nat.le_refl _) (by omega)) hp
  | succ d ih =>
    intro j hj
    have i := ih (j + 1) (by omega)
    refine br_f (nI_ge (by omega) (by omega)) (xw_isQ hb hl (by omega) (fun z => br_f (by decide) ?_) (fun z => br_t rfl (nm_r (nI_1 _) ?_)))
    · rw [pd_ix8, nI_clamp (n := l * 8 + j) (by omega), pd_x_upd _ (by omega)]
      rw [pd_mk_s (p' := fun a b => decide (a = l ∧ b < j + 1 ∧ p a b ≠ 0)) (fun a b => ?_)]
      · exact ⟨vp_in_nI (by omega) (by decide), nm_e (nm_r (nI_1 _) i)⟩
      · simp only [decide_eq_true_eq]
        constructor
        · intro y
          by_cases c : b = j
          · exact Or.inl ⟨y.1, c⟩
          · exact Or.inr ⟨y.1, by omega, y.2.2⟩
        · intro y
          rcases y with y | y
          · exact ⟨y.1, by omega, by rw [y.1, y.2]; exact z⟩
          · exact ⟨y.1, by omega, y.2.2⟩
    · rw [← pd_mk_c (p := fun a b => decide (a = l ∧ b < j ∧ p a b ≠ 0)) (fun a b => ?_)] at i
      · exact i
      · simp only [decide_eq_true_eq]
        constructor
        · intro y
          have : b ≠ j := fun c => y.2.2 (by rw [y.1, c]; exact z)
          exact ⟨y.1, by omega, y.2.2⟩
        · intro y
          exact ⟨y.1, by omega, y.2.2⟩
theorem xw_mark {T L S : Nat} {n : Int32} {st pr hd vl : Nat → Int32} {p : Nat → Nat → Nat} {m : Nat → Nat → Int32} {post : St2 → Prop} {l : Nat} (hT : T ≤ 8) (hb : ∀ a b, p a b < 16) (hl : l < 12) (hp : post (nI T, nI L, nI S, n, st, pr, hd, pd_xp p, pd_x (pd_mk (fun a b => decide (a = l ∧ b < T ∧ p a b ≠ 0)) m), vl)) : wpX_markQueue post (nI T, nI L, nI S, n, st, pr, hd, pd_xp p, pd_x m, vl) (nI l) := by
  have i := xw_mark_l hT hb hl hp T 0 (by omega)
  rw [← pd_mk_c (p := fun _ _ => false) (fun a b => by simp), pd_mk_0] at i
  exact ⟨T + 1, i⟩
end
section
/-! the component's walks: sets of transactions as bits -/
theorem pd_bj {r : Int32} {j : Nat} {Q : Nat → Prop} (hj : j < 32) (h : ∀ u, u < 32 → (bt r u = true ↔ u < j ∧ Q u)) (c : Q j) : ∀ u, u < 32 → (bt (r ||| ((1 : Int32) <<< (nI j &&& 31))) u = true ↔ u < j + 1 ∧ Q u) := fun u hu => by
  rw [b_or, pd_bit hj, Bool.or_eq_true, h u hu, decide_eq_true_eq]
  constructor
  · intro y
    rcases y with y | y
    · exact ⟨by omega, y.2⟩
    · exact ⟨by omega, by rw [y]; exact c⟩
  · intro y
    by_cases z : u = j
    · exact Or.inr z
    · exact Or.inl ⟨by omega, y.2⟩
theorem pd_bn {r : Int32} {j : Nat} {Q : Nat → Prop} (h : ∀ u, u < 32 → (bt r u = true ↔ u < j ∧ Q u)) (c : ¬ Q j) : ∀ u, u < 32 → (bt r u = true ↔ u < j + 1 ∧ Q u) := fun u hu => by
  rw [h u hu]
  constructor
  · intro y; exact ⟨by omega, y.2⟩
  · intro y
    have : u ≠ j := fun z => c (by rw [← z]; exact y.2)
    exact ⟨by omega, y.2⟩
theorem pd_b00 {Q : Nat → Prop} : ∀ u, u < 32 → (bt 0 u = true ↔ u < 0 ∧ Q u) := fun u _ => by
  rw [b_0]
  exact ⟨fun z => (nomatch z), fun z => absurd z.1 (by omega)⟩
theorem xw_tb_0 {T L S : Nat} {n : Int32} {st pr hd vl : Nat → Int32} {p : Nat → Nat → Nat} {m : Nat → Nat → Int32} {post : Int32 → Prop} {J : Int32 → Int32 → Prop} {x1 x3 r : Int32} {l j : Nat} (hl : l < 12) (h1 : hd l = nI j → J (r ||| ((1 : Int32) <<< (nI j &&& 31))) (nI (j + 1))) (h0 : ¬ hd l = nI j → J r (nI (j + 1))) :
    wX_targetsByLock_57 post J x1 (nI l) x3 r (nI j) 0 (nI T) (nI L) (nI S) n st pr hd (pd_xp p) (pd_x m) vl := by
  refine br_t rfl ?_
  rw [nI_clamp (n := l) (by omega)]
  refine ⟨vp_in_nI hl (by decide), ?_⟩
  by_cases z : hd l = nI j
  · exact br_t z (nm_e (nm_r (nI_1 _) (h1 z)))
  · exact br_f z (nm_r (nI_1 _) (h0 z))
theorem xw_tb_1 {T L S : Nat} {n : Int32} {st pr hd vl : Nat → Int32} {p : Nat → Nat → Nat} {m : Nat → Nat → Int32} {post : Int32 → Prop} {J : Int32 → Int32 → Prop} {x1 x2 x3 r : Int32} {j : Nat} (h1 : J (r ||| ((1 : Int32) <<< (nI j &&& 31))) (nI (j + 1))) :
    wX_targetsByLock_57 post J x1 x2 x3 r (nI j) 1 (nI T) (nI L) (nI S) n st pr hd (pd_xp p) (pd_x m) vl :=
  br_f (by decide) (nm_e (nm_r (nI_1 _) h1))
theorem xw_tb_l {T L S : Nat} {n : Int32} {st pr hd vl : Nat → Int32} {p : Nat → Nat → Nat} {m : Nat → Nat → Int32} {post : Int32 → Prop} {l t : Nat} (hT : T ≤ 8) (hb : ∀ a b, p a b < 16) (hl : l < 12) (ht : t < 8)
    (hp : ∀ r : Int32, (∀ u, u < 32 → (bt r u = true ↔ u < T ∧ ((p l u ≠ 0 ∧ p l u < p l t) ∨ hd l = nI u))) → post r) :
    ∀ d j (r : Int32), j + d = T → (∀ u, u < 32 → (bt r u = true ↔ u < j ∧ ((p l u ≠ 0 ∧ p l u < p l t) ∨ hd l = nI u))) → wX_targetsByLock_11 post (nI t) (nI l) (nI (l * 8)) (nI T) (nI L) (nI S) n st pr hd (pd_xp p) (pd_x m) vl (d + 1) r (nI j) := by
  intro d
  induction d with
  | zero =>
    intro j r hj h
    have e : j = T := by omega
    subst e
    exact br_t (nI_le (Nat.le_refl _) (by omega)) (hp r h)
  | succ d ih =>
    intro j r hj h
    have hbj := hb l j
    have hbt := hb l t
    have hi : vp_in (nI (l * 8 + j)) 96 := vp_in_nI (by omega) (by decide)
    have hit : vp_in (nI (l * 8 + t)) 96 := vp_in_nI (by omega) (by decide)
    refine br_f (nI_ge (by omega) (by omega)) ?_
    rw [nI_add, nI_add (l * 8) t, nI_clamp (n := l * 8 + j) (by omega), nI_clamp (n := l * 8 + t) (by omega), pd_xp_at p (t := j) (by omega), pd_xp_at p ht]
    refine ⟨hi, ?_⟩
    have k0 : ¬ (p l j ≠ 0 ∧ p l j < p l t) → wX_targetsByLock_57 post (wX_targetsByLock_11 post (nI t) (nI l) (nI (l * 8)) (nI T) (nI L) (nI S) n st pr hd (pd_xp p) (pd_x m) vl (d + 1)) (nI t) (nI l) (nI (l * 8)) r (nI j) 0 (nI T) (nI L) (nI S) n st pr hd (pd_xp p) (pd_x m) vl := fun c =>
      xw_tb_0 hl (fun z => ih (j + 1) _ (by omega) (pd_bj (by omega) h (Or.inr z))) (fun z => ih (j + 1) _ (by omega) (pd_bn h (fun y => y.elim c z)))
    by_cases z : p l j = 0
    · exact br_t (by rw [z]; rfl) (k0 (fun y => y.1 z))
    · refine br_f (nI_ne0 (by omega) (by omega)) ⟨hi, hit, ?_⟩
      by_cases y : p l t ≤ p l j
      · exact br_t (nI_le y (by omega)) (k0 (fun w => by omega))
      · exact br_f (nI_ge (by omega) (by omega)) (xw_tb_1 (ih (j + 1) _ (by omega) (pd_bj (by omega) h (Or.inl ⟨z, by omega⟩))))
theorem xw_tb {T L S : Nat} {n : Int32} {st pr hd vl : Nat → Int32} {p : Nat → Nat → Nat} {m : Nat → Nat → Int32} {post : Int32 → Prop} {l t : Nat} (hT : T ≤ 8) (hb : ∀ a b, p a b < 16) (hl : l < 12) (ht : t < 8)
    (hp : ∀ r : Int32, (∀ u, u < 32 → (bt r u = true ↔ u < T ∧ ((p l u ≠ 0 ∧ p l u < p l t) ∨ hd l = nI u))) → post r) : wpX_targetsByLock post (nI T, nI L, nI S, n, st, pr, hd, pd_xp p, pd_x m, vl) (nI t) (nI l) :=
  nm_r (pd_ix8' l) ⟨T + 1, xw_tb_l hT hb hl ht hp T 0 0 (by omega) pd_b00⟩
theorem pd_bo {r x : Int32} {j : Nat} {c : Nat → Prop} {A : Nat → Nat → Prop} (h : ∀ u, u < 32 → (bt r u = true ↔ ∃ l, l < j ∧ c l ∧ A l u)) (hc : c j) (hx : ∀ u, u < 32 → (bt x u = true ↔ A j u)) :
    ∀ u, u < 32 → (bt (r ||| x) u = true ↔ ∃ l, l < j + 1 ∧ c l ∧ A l u) := fun u hu => by
  rw [b_or, Bool.or_eq_true, h u hu, hx u hu]
  constructor
  · intro y
    rcases y with ⟨l, h1, h2, h3⟩ | y
    · exact ⟨l, by omega, h2, h3⟩
    · exact ⟨j, by omega, hc, y⟩
  · intro ⟨l, h1, h2, h3⟩
    by_cases z : l = j
    · rw [z] at h3; exact Or.inr h3
    · exact Or.inl ⟨l, by omega, h2, h3⟩
theorem pd_bs {r : Int32} {j : Nat} {c : Nat → Prop} {A : Nat → Nat → Prop} (h : ∀ u, u < 32 → (bt r u = true ↔ ∃ l, l < j ∧ c l ∧ A l u)) (hc : ¬ c j) :
    ∀ u, u < 32 → (bt r u = true ↔ ∃ l, l < j + 1 ∧ c l ∧ A l u) := fun u hu => by
  rw [h u hu]
  constructor
  · intro ⟨l, h1, h2, h3⟩
    exact ⟨l, by omega, h2, h3⟩
  · intro ⟨l, h1, h2, h3⟩
    have : l ≠ j := fun z => hc (by rw [← z]; exact h2)
    exact ⟨l, by omega, h2, h3⟩
theorem pd_bs0 {c : Nat → Prop} {A : Nat → Nat → Prop} : ∀ u, u < 32 → (bt 0 u = true ↔ ∃ l, l < 0 ∧ c l ∧ A l u) := fun u _ => by
  rw [b_0]
  exact ⟨fun z => (nomatch z), fun ⟨l, h, _⟩ => absurd h (by omega)⟩
/-- those for whom t waits at l -/
def pd_A (T : Nat) (p : Nat → Nat → Nat) (hd : Nat → Int32) (t l u : Nat) : Prop := u < T ∧ ((p l u ≠ 0 ∧ p l u < p l t) ∨ hd l = nI u)
theorem xw_rep_l {T L S : Nat} {n : Int32} {st pr hd vl : Nat → Int32} {p : Nat → Nat → Nat} {m : Nat → Nat → Int32} {post : Int32 → Prop} {t : Nat} (hT : T ≤ 8) (hL : L ≤ 12) (hb : ∀ a b, p a b < 16) (ht : t < 8)
    (hp : ∀ r : Int32, (∀ u, u < 32 → (bt r u = true ↔ ∃ l, l < L ∧ m l t ≠ 0 ∧ pd_A T p hd t l u)) → post r) :
    ∀ d j (r : Int32), j + d = L → (∀ u, u < 32 → (bt r u = true ↔ ∃ l, l < j ∧ m l t ≠ 0 ∧ pd_A T p hd t l u)) → wX_reportedTargets_4 post (nI t) (nI T) (nI L) (nI S) n st pr hd (pd_xp p) (pd_x m) vl (d + 1) r (nI j) := by
  intro d
  induction d with
  | zero =>
    intro j r hj h
    have e : j = L := by omega
    subst e
    exact br_t (nI_le (Nat.le_refl _) (by omega)) (hp r h)
  | succ d ih =>
    intro j r hj h
    refine br_f (nI_ge (by omega) (by omega)) ?_
    rw [pd_ix8, nI_clamp (n := j * 8 + t) (by omega), pd_x_at m ht]
    refine ⟨vp_in_nI (by omega) (by decide), ?_⟩
    by_cases z : m j t = 0
    · exact br_t z (nm_r (nI_1 _) (ih (j + 1) r (by omega) (pd_bs h (fun y => y z))))
    · exact br_f z (xw_tb hT hb (by omega) ht (fun x hx => nm_e (nm_r (nI_1 _) (ih (j + 1) _ (by omega) (pd_bo h z hx)))))
theorem xw_all_l {T L S : Nat} {n : Int32} {st pr hd vl : Nat → Int32} {p : Nat → Nat → Nat} {m : Nat → Nat → Int32} {post : Int32 → Prop} {t : Nat} (hT : T ≤ 8) (hL : L ≤ 12) (hb : ∀ a b, p a b < 16) (ht : t < 8)
    (hp : ∀ r : Int32, (∀ u, u < 32 → (bt r u = true ↔ ∃ l, l < L ∧ p l t ≠ 0 ∧ pd_A T p hd t l u)) → post r) :
    ∀ d j (r : Int32), j + d = L → (∀ u, u < 32 → (bt r u = true ↔ ∃ l, l < j ∧ p l t ≠ 0 ∧ pd_A T p hd t l u)) → wX_allTargets_4 post (nI t) (nI T) (nI L) (nI S) n st pr hd (pd_xp p) (pd_x m) vl (d + 1) r (nI j) := by
  intro d
  induction d with
  | zero =>
    intro j r hj h
    have e : j = L := by omega
    subst e
    exact br_t (nI_le (Nat.le_refl _) (by omega)) (hp r h)
  | succ d ih =>
    intro j r hj h
    exact br_f (nI_ge (by omega) (by omega)) (xw_isQ hb (by omega) ht
      (fun z => br_f (by decide) (xw_tb hT hb (by omega) ht (fun x hx => nm_e (nm_r (nI_1 _) (ih (j + 1) _ (by omega) (pd_bo h z hx))))))
      (fun z => br_t rfl (nm_r (nI_1 _) (ih (j + 1) r (by omega) (pd_bs h (fun y => y z))))))
theorem pd_tg {T L : Nat} {q : Nat → Nat → Nat} {hd : Nat → Int32} {l t u : Nat} (hT : T ≤ 8) (hH : pd_H T q hd l) (e : 2 ≤ q l t) : pd_A T (pd_p q) hd t l u ↔ (u < T ∧ q l u ≠ 0 ∧ q l u < q l t) := by
  show (u < T ∧ ((q l u - 1 ≠ 0 ∧ q l u - 1 < q l t - 1) ∨ hd l = nI u)) ↔ _
  constructor
  · intro ⟨hu, y⟩
    rcases y with y | y
    · exact ⟨hu, by omega, by omega⟩
    · have := (pd_H_iff hT hH hu).mp y
      exact ⟨hu, by omega, by omega⟩
  · intro ⟨hu, y⟩
    refine ⟨hu, ?_⟩
    by_cases z : q l u = 1
    · exact Or.inr ((pd_H_iff hT hH hu).mpr z)
    · exact Or.inl ⟨by omega, by omega⟩
theorem xw_rep {T L S : Nat} {n : Int32} {st pr hd vl : Nat → Int32} {q : Nat → Nat → Nat} {m : Nat → Nat → Int32} {post : Int32 → Prop} {x t : Nat} {s : Nat → Int32} (hT : T ≤ 8) (hL : L ≤ 12) (R : pd_R x T L q m s st hd) (ht : t < T)
    (hp : ∀ r : Int32, (∀ u, u < 32 → (bt r u = true ↔ pd_E T L q m t u)) → post r) : wpX_reportedTargets post (nI T, nI L, nI S, n, st, pr, hd, pd_xp (pd_p q), pd_x m, vl) (nI t) := by
  refine ⟨L + 1, xw_rep_l hT hL (pd_p_lt R.1.2.2.2) (by omega) (fun r h => hp r (fun u hu => ?_)) L 0 0 (by omega) pd_bs0⟩
  rw [h u hu]
  constructor
  · intro ⟨l, h1, h2, h3⟩
    have h4 := (pd_tg (L := L) hT (R.2.1 l h1) (R.1.2.1 l t h1 ht h2)).mp h3
    exact ⟨ht, h4.1, l, h1, h2, h4.2.1, h4.2.2⟩
  · intro ⟨_, hu, l, h1, h2, h3, h4⟩
    exact ⟨l, h1, h2, (pd_tg (L := L) hT (R.2.1 l h1) (R.1.2.1 l t h1 ht h2)).mpr ⟨hu, h3, h4⟩⟩
theorem xw_all {T L S : Nat} {n : Int32} {st pr hd vl : Nat → Int32} {q : Nat → Nat → Nat} {m : Nat → Nat → Int32} {post : Int32 → Prop} {x t : Nat} {s : Nat → Int32} (hT : T ≤ 8) (hL : L ≤ 12) (R : pd_R x T L q m s st hd) (ht : t < T)
    (hp : ∀ r : Int32, (∀ u, u < 32 → (bt r u = true ↔ pd_E1 T L q t u)) → post r) : wpX_allTargets post (nI T, nI L, nI S, n, st, pr, hd, pd_xp (pd_p q), pd_x m, vl) (nI t) := by
  refine ⟨L + 1, xw_all_l hT hL (pd_p_lt R.1.2.2.2) (by omega) (fun r h => hp r (fun u hu => ?_)) L 0 0 (by omega) pd_bs0⟩
  rw [h u hu]
  constructor
  · intro ⟨l, h1, h2, h3⟩
    have h2' : q l t - 1 ≠ 0 := h2
    have h4 := (pd_tg (L := L) hT (R.2.1 l h1) (by omega)).mp h3
    exact ⟨ht, h4.1, l, h1, h4.2.1, h4.2.2⟩
  · intro ⟨_, hu, l, h1, h3, h4⟩
    exact ⟨l, h1, by show q l t - 1 ≠ 0; omega, (pd_tg (L := L) hT (R.2.1 l h1) (by omega)).mpr ⟨hu, h3, h4⟩⟩
end
section
/-! the component's walks: whom a path reaches, and the lowest on a cycle -/
theorem xw_reach_in {T L S : Nat} {n : Int32} {st pr hd vl : Nat → Int32} {q : Nat → Nat → Nat} {m : Nat → Nat → Int32} {post : Int32 → Prop} {J : Int32 → Int32 → Prop} {al r : Int32} {x t k : Nat} {s : Nat → Int32} (hT : T ≤ 8) (hL : L ≤ 12) (R : pd_R x T L q m s st hd)
    (hb : ∀ y, pd_E T L q m t y → bt al y = true → bt r y = true)
    (hJ : ∀ r' : Int32, pd_pj T (pd_E T L q m) (fun y => bt al y = true) t (bt r) T 0 (bt r') → J r' (nI (k + 1))) :
    ∀ d j (r' : Int32), j + d = T → pd_pj T (pd_E T L q m) (fun y => bt al y = true) t (bt r) j 0 (bt r') → wX_reach_23 post J al (nI k) (nI T) (nI L) (nI S) n st pr hd (pd_xp (pd_p q)) (pd_x m) vl (d + 1) r' (nI j) := by
  intro d
  induction d with
  | zero =>
    intro j r' hj h
    have e : j = T := by omega
    subst e
    exact br_t (nI_le (Nat.le_refl _) (by omega)) (nm_r (nI_1 _) (hJ r' h))
  | succ d ih =>
    intro j r' hj h
    have hjT : j < T := by omega
    refine br_f (nI_ge (by omega) (by omega)) (xw_has (by omega) (fun c => br_f (by decide) (xw_rep hT hL R hjT (fun r5 h5 => nm_e (nm_r (nI_1 _) (ih (j + 1) _ (by omega) ?_))))) (fun c => br_t rfl (nm_r (nI_1 _) (ih (j + 1) r' (by omega) ?_))))
    · refine pd_pj_all (pd_E_lt T L q m) h hjT c (fun y hy => ?_)
      rw [b_or, b_and, Bool.or_eq_true, Bool.and_eq_true, h5 y (by omega)]
    · refine pd_pj_no hb (pd_E_lt T L q m) h hjT (fun y => ?_)
      rw [c] at y
      exact nomatch y
theorem xw_reach_out {T L S : Nat} {n : Int32} {st pr hd vl : Nat → Int32} {q : Nat → Nat → Nat} {m : Nat → Nat → Int32} {post : Int32 → Prop} {al : Int32} {x t : Nat} {s : Nat → Int32} (hT : T ≤ 8) (hL : L ≤ 12) (R : pd_R x T L q m s st hd) (ht : t < T)
    (hp : ∀ r : Int32, (∀ u, u < T → (bt r u = true ↔ pd_RC (pd_E T L q m) (fun y => bt al y = true) t u)) → post r) :
    ∀ d k (r : Int32), k + d = T → (∀ y, pd_E T L q m t y → bt al y = true → bt r y = true) → pd_po T (pd_E T L q m) (fun y => bt al y = true) t k (bt r) → wX_reach_11 post al (nI T) (nI L) (nI S) n st pr hd (pd_xp (pd_p q)) (pd_x m) vl (d + 1) r (nI (k + 1)) := by
  intro d
  induction d with
  | zero =>
    intro k r hk hb h
    have e : k = T := by omega
    subst e
    exact br_t (nI_lt (by omega) (by omega)) (hp r (pd_po_e (pd_E_lt k L q m) h))
  | succ d ih =>
    intro k r hk hb h
    refine br_f (nI_nlt (by omega) (by omega)) ⟨T + 1, xw_reach_in (r := r) (t := t) hT hL R hb (fun r' h' => ?_) T 0 r (by omega) (pd_pj_0 (bt r))⟩
    exact ih (k + 1) r' (by omega) (fun y hy py => h'.1 y (pd_E_lt T L q m _ _ hy) (hb y hy py)) (pd_po_s (pd_E_lt T L q m) ht h h')
theorem xw_reach {T L S : Nat} {n : Int32} {st pr hd vl : Nat → Int32} {q : Nat → Nat → Nat} {m : Nat → Nat → Int32} {post : Int32 → Prop} {al : Int32} {x t : Nat} {s : Nat → Int32} (hT2 : 2 ≤ T) (hT : T ≤ 8) (hL : L ≤ 12) (R : pd_R x T L q m s st hd) (ht : t < T)
    (hp : ∀ r : Int32, (∀ u, u < T → (bt r u = true ↔ pd_RC (pd_E T L q m) (fun y => bt al y = true) t u)) → post r) : wpX_reach post (nI T, nI L, nI S, n, st, pr, hd, pd_xp (pd_p q), pd_x m, vl) (nI t) al := by
  refine xw_rep hT hL R ht (fun r h => nm_e ⟨T, ?_⟩)
  have h1 : ∀ u, u < T → (bt (r &&& al) u = true ↔ (pd_E T L q m t u ∧ bt al u = true)) := fun u hu => by
    rw [b_and, Bool.and_eq_true, h u (by omega)]
  have i := xw_reach_out (S := S) (n := n) (pr := pr) (vl := vl) hT hL R ht hp (T - 1) 1 (r &&& al) (by omega) (fun y hy py => (h1 y (pd_E_lt T L q m _ _ hy)).mpr ⟨hy, py⟩) (pd_po_1 (pd_E_lt T L q m) h1)
  rw [show T - 1 + 1 = T by omega] at i
  exact i
theorem pd_C_255 {T L : Nat} {q : Nat → Nat → Nat} {m : Nat → Nat → Int32} {t : Nat} (hT : T ≤ 8) : pd_RC (pd_E T L q m) (fun y => bt 255 y = true) t t ↔ pd_C T L q m t :=
  pd_RC_congr (fun w x h => by
    have := pd_E_lt T L q m w x h
    rw [b_255, decide_eq_true_eq]
    exact ⟨fun _ => trivial, fun _ => by omega⟩) t t
theorem xw_low_l {T L S : Nat} {n : Int32} {st pr hd vl : Nat → Int32} {q : Nat → Nat → Nat} {m : Nat → Nat → Int32} {post : Int32 → Prop} {x : Nat} {s : Nat → Int32} (hT2 : 2 ≤ T) (hT : T ≤ 8) (hL : L ≤ 12) (R : pd_R x T L q m s st hd) (hp : post (pd_low (pd_C T L q m) pr T)) :
    ∀ d j, j + d = T → wX_lowestOnCycle_4 post (nI T) (nI L) (nI S) n st pr hd (pd_xp (pd_p q)) (pd_x m) vl (d + 1) (pd_low (pd_C T L q m) pr j) (nI j) := by
  intro d
  induction d with
  | zero =>
    intro j hj
    have e : j = T := by omega
    subst e
    exact br_t (nI_le (Nat.le_refl _) (by omega)) hp
  | succ d ih =>
    intro j hj
    have i := ih (j + 1) (by omega)
    have hjT : j < T := by omega
    refine br_f (nI_ge (by omega) (by omega)) (xw_reach hT2 hT hL R hjT (fun r h => xw_has (by omega) (fun c => br_f (by decide) ?_) (fun c => br_t rfl (nm_r (nI_1 _) ?_))))
    · have hC : pd_C T L q m j := (pd_C_255 hT).mp ((h j hjT).mp c)
      by_cases z : pd_low (pd_C T L q m) pr j = -1
      · rw [pd_low_t ⟨hC, Or.inl z⟩] at i
        exact br_t z (nm_r (nI_1 _) i)
      · refine br_f z ?_
        rcases pd_low_is (pd_C T L q m) pr j (by omega) with y | ⟨a, ha, e, _⟩
        · exact absurd y.1 z
        · have hcl : (pd_low (pd_C T L q m) pr j).toNatClampNeg = a := by rw [e, nI_clamp (by omega)]
          have i1 : pd_lt pr j a → wX_lowestOnCycle_4 post (nI T) (nI L) (nI S) n st pr hd (pd_xp (pd_p q)) (pd_x m) vl (d + 1) (nI j) (nI (j + 1)) := fun y => by
            rw [pd_low_t ⟨hC, Or.inr (by rw [hcl]; exact y)⟩] at i
            exact i
          have i0 : ¬ pd_lt pr j a → wX_lowestOnCycle_4 post (nI T) (nI L) (nI S) n st pr hd (pd_xp (pd_p q)) (pd_x m) vl (d + 1) (nI a) (nI (j + 1)) := fun y => by
            rw [pd_low_f (fun w => w.2.elim z (fun w => y (by rw [hcl] at w; exact w))), e] at i
            exact i
          rw [e]
          exact xw_lower (by omega) (by omega) (fun y => br_f (by decide) (nm_r (nI_1 _) (i1 y))) (fun y => br_t rfl (nm_r (nI_1 _) (i0 y)))
    · have hC : ¬ pd_C T L q m j := fun y => by
        rw [(h j hjT).mpr ((pd_C_255 hT).mpr y)] at c
        exact nomatch c
      rw [pd_low_f (fun y => hC y.1)] at i
      exact i
theorem xw_low {T L S : Nat} {n : Int32} {st pr hd vl : Nat → Int32} {q : Nat → Nat → Nat} {m : Nat → Nat → Int32} {post : Int32 → Prop} {x : Nat} {s : Nat → Int32} (hT2 : 2 ≤ T) (hT : T ≤ 8) (hL : L ≤ 12) (R : pd_R x T L q m s st hd) (hp : post (pd_low (pd_C T L q m) pr T)) : wpX_lowestOnCycle post (nI T, nI L, nI S, n, st, pr, hd, pd_xp (pd_p q), pd_x m, vl) :=
  ⟨T + 1, xw_low_l hT2 hT hL R hp T 0 (by omega)⟩
end
section
/-! the edges when t has left; cycles -/
theorem pe_rem {T L : Nat} {q : Nat → Nat → Nat} {m : Nat → Nat → Int32} {s : Nat → Int32} {l t : Nat} (h : pd_G T L q m s) (hl : l < L) (ht : t < T) (e : q l t ≠ 0) {a b : Nat} (na : a ≠ t) (nb : b ≠ t) :
    pd_E T L (pd_rem T q l t) (pd_mrem T q m l t) a b ↔ pd_E T L q m a b := by
  have hQ := h.1 l hl
  have key : a < T → b < T → ((pd_mrem T q m l t l a ≠ 0 ∧ pd_rem T q l t l b ≠ 0 ∧ pd_rem T q l t l b < pd_rem T q l t l a) ↔ (m l a ≠ 0 ∧ q l b ≠ 0 ∧ q l b < q l a)) := by
    intro ha hb
    have ia : q l a ≠ 0 → q l a ≠ q l t := fun z y => na (hQ.2.2 a t ha ht y z)
    have ib : q l b ≠ 0 → q l b ≠ q l t := fun z y => nb (hQ.2.2 b t hb ht y z)
    have ea : pd_rem T q l t l a = if q l t < q l a then q l a - 1 else q l a := by
      by_cases g : q l t < q l a
      · rw [pd_rem_gt _ _ _ _ ha g, if_pos g]
      · rw [pd_rem_le _ _ _ _ na (fun z => g z.2), if_neg g]
    have eb : pd_rem T q l t l b = if q l t < q l b then q l b - 1 else q l b := by
      by_cases g : q l t < q l b
      · rw [pd_rem_gt _ _ _ _ hb g, if_pos g]
      · rw [pd_rem_le _ _ _ _ nb (fun z => g z.2), if_neg g]
    rw [ea, eb]
    by_cases c : q l t < q l a ∧ q l a = 2
    · have em : pd_mrem T q m l t l a = 0 := if_pos ⟨rfl, Or.inr ⟨ha, c.1, c.2⟩⟩
      rw [em]
      constructor
      · intro z; exact absurd rfl z.1
      · intro z
        have := ib z.2.1
        omega
    · have em : pd_mrem T q m l t l a = m l a := if_neg (fun z => z.2.elim na (fun y => c y.2))
      rw [em]
      by_cases ga : q l t < q l a
      · rw [if_pos ga]
        by_cases gb : q l t < q l b
        · rw [if_pos gb]
          exact ⟨fun z => ⟨z.1, by omega, by omega⟩, fun z => ⟨z.1, by omega, by omega⟩⟩
        · rw [if_neg gb]
          exact ⟨fun z => ⟨z.1, z.2.1, by omega⟩, fun z => ⟨z.1, z.2.1, by have := ib z.2.1; omega⟩⟩
      · rw [if_neg ga]
        by_cases gb : q l t < q l b
        · rw [if_pos gb]
          exact ⟨fun z => ⟨z.1, by omega, by omega⟩, fun z => ⟨z.1, by omega, by omega⟩⟩
        · rw [if_neg gb]
  constructor
  · intro ⟨ha, hb, k, hk, z⟩
    by_cases y : k = l
    · subst y
      exact ⟨ha, hb, k, hk, (key ha hb).mp z⟩
    · rw [pd_rem_rows _ _ _ _ y, show pd_mrem T q m l t k a = m k a from if_neg (fun c => y c.1)] at z
      exact ⟨ha, hb, k, hk, z⟩
  · intro ⟨ha, hb, k, hk, z⟩
    by_cases y : k = l
    · subst y
      exact ⟨ha, hb, k, hk, (key ha hb).mpr z⟩
    · refine ⟨ha, hb, k, hk, ?_⟩
      rw [pd_rem_rows _ _ _ _ y, show pd_mrem T q m l t k a = m k a from if_neg (fun c => y c.1)]
      exact z
theorem pe_it {c : Nat → Bool} (hc : c 0 = false) {T L : Nat} {q : Nat → Nat → Nat} {m : Nat → Nat → Int32} {s : Nat → Int32} {t : Nat} (h : pd_G T L q m s) (ht : t < T) :
    ∀ j, j ≤ L → pd_G T L (pd_it c T t q m j).1 (pd_it c T t q m j).2 s ∧ ∀ a b, a ≠ t → b ≠ t → (pd_E T L (pd_it c T t q m j).1 (pd_it c T t q m j).2 a b ↔ pd_E T L q m a b) := by
  intro j
  induction j with
  | zero => intro _; exact ⟨h, fun _ _ _ _ => Iff.rfl⟩
  | succ j ih =>
    intro hj
    obtain ⟨i1, i2⟩ := ih (by omega)
    by_cases z : c ((pd_it c T t q m j).1 j t) = true
    · rw [pd_it_t z]
      have e : (pd_it c T t q m j).1 j t ≠ 0 := fun y => by rw [y, hc] at z; exact nomatch z
      exact ⟨pd_G_rem i1 (by omega) ht e, fun a b na nb => (pe_rem i1 (by omega) ht e na nb).trans (i2 a b na nb)⟩
    · rw [pd_it_f z]
      exact ⟨i1, i2⟩
theorem pe_end {T L : Nat} {q : Nat → Nat → Nat} {m : Nat → Nat → Int32} {s : Nat → Int32} {t : Nat} (h : pd_G T L q m s) (ht : t < T) (a b : Nat) :
    pd_E T L (pd_end T L t q m).1 (pd_end T L t q m).2 a b ↔ (a ≠ t ∧ b ≠ t ∧ pd_E T L q m a b) := by
  obtain ⟨g1, e1⟩ := pe_it (c := pd_c1) rfl h ht L (Nat.le_refl L)
  obtain ⟨g2, e2⟩ := pe_it (c := pd_c2) rfl g1 ht L (Nat.le_refl L)
  have g3 : pd_G T L (pd_end T L t q m).1 (pd_end T L t q m).2 s := g2
  constructor
  · intro z
    have na : a ≠ t := fun y => by
      obtain ⟨ha, hb, l, hl, z1, z2, z3⟩ := z
      rw [y, pd_end_0 l hl] at z3
      omega
    have nb : b ≠ t := fun y => by
      obtain ⟨ha, hb, l, hl, z1, z2, z3⟩ := z
      rw [y, pd_end_0 l hl] at z2
      exact z2 rfl
    exact ⟨na, nb, (e1 a b na nb).mp ((e2 a b na nb).mp z)⟩
  · intro ⟨na, nb, z⟩
    exact (e2 a b na nb).mpr ((e1 a b na nb).mpr z)
/-! a cycle through v, in the least closed set's words -/
theorem pe_mono {E F : Nat → Nat → Prop} {P Q : Nat → Prop} {v : Nat} (hE : ∀ a b, E a b → P b → (F a b ∧ Q b)) {u : Nat} (h : pd_RC E P v u) : pd_RC F Q v u :=
  fun S hS => h S ⟨fun x hx px => hS.1 x (hE _ _ hx px).1 (hE _ _ hx px).2, fun w x hw hx px => hS.2 w x hw (hE _ _ hx px).1 (hE _ _ hx px).2⟩
def pe_C (E : Nat → Nat → Prop) (v : Nat) : Prop := pd_RC E (fun _ => True) v v
def pe_D (E : Nat → Nat → Prop) (P : Nat → Prop) (v : Nat) : Prop := ∃ u, pd_RC E P v u ∧ E u v
theorem pe_pre {E : Nat → Nat → Prop} {w x v : Nat} (e : E w x) (h : pd_RC E (fun _ => True) x v) : pd_RC E (fun _ => True) w v :=
  h (pd_RC E (fun _ => True) w) ⟨fun y hy _ => (pd_RC_cl E _ w).2 x y ((pd_RC_cl E _ w).1 x e trivial) hy trivial, fun y z hy hz _ => (pd_RC_cl E _ w).2 y z hy hz trivial⟩
theorem pe_trans {E : Nat → Nat → Prop} {a b c : Nat} (h : pd_RC E (fun _ => True) a b) (k : pd_RC E (fun _ => True) b c) : pd_RC E (fun _ => True) a c :=
  k (pd_RC E (fun _ => True) a) ⟨fun y hy _ => (pd_RC_cl E _ a).2 b y h hy trivial, fun y z hy hz _ => (pd_RC_cl E _ a).2 y z hy hz trivial⟩
/-- all on the cycle are on a cycle -/
theorem pe_all {E : Nat → Nat → Prop} {v : Nat} (h : pe_C E v) : pd_RC E (pe_C E) v v := by
  have hv : ∀ x, (pd_RC E (fun _ => True) x v ∨ x = v) → pd_RC E (fun _ => True) v x → pe_C E x := fun x hx y => by
    rcases hx with z | z
    · exact pe_trans z y
    · rw [z]; exact h
  refine h (fun x => (pd_RC E (fun _ => True) x v ∨ x = v) → pd_RC E (pe_C E) v x ∧ pd_RC E (fun _ => True) v x) ⟨fun x hx _ c => ?_, fun w x hw hx _ c => ?_⟩ (Or.inr rfl) |>.1
  · have a : pd_RC E (fun _ => True) v x := (pd_RC_cl E _ v).1 x hx trivial
    exact ⟨(pd_RC_cl E _ v).1 x hx (hv x c a), a⟩
  · have d := hw (Or.inl (by
      rcases c with z | z
      · exact pe_pre hx z
      · rw [z] at hx
        exact (pd_RC_cl E _ w).1 v hx trivial))
    have a : pd_RC E (fun _ => True) v x := (pd_RC_cl E _ v).2 w x d.2 hx trivial
    exact ⟨(pd_RC_cl E _ v).2 w x d.1 hx (hv x c a), a⟩
/-- the cycle's last edge comes back to v; before it all are within P -/
theorem pe_back {E : Nat → Nat → Prop} {P Q : Nat → Prop} {v : Nat} (irr : ¬ E v v) (nv : ¬ P v) (hQ : ∀ x, Q x → x = v ∨ P x) (h : pd_RC E Q v v) : pe_D E P v := by
  have hP : ∀ x, pd_RC E P v x → P x := fun x hx => hx P ⟨fun _ _ px => px, fun _ _ _ _ px => px⟩
  have k := h (fun x => (x = v ∧ pe_D E P v) ∨ pd_RC E P v x) ⟨fun x hx qx => by
      rcases hQ x qx with z | z
      · rw [z] at hx; exact absurd hx irr
      · exact Or.inr ((pd_RC_cl E P v).1 x hx z), fun w x hw hx qx => by
      rcases hQ x qx with z | z
      · rcases hw with y | y
        · exact Or.inl ⟨z, y.2⟩
        · exact Or.inl ⟨z, w, y, by rw [z] at hx; exact hx⟩
      · rcases hw with y | y
        · rw [y.1] at hx
          exact Or.inr ((pd_RC_cl E P v).1 x hx z)
        · exact Or.inr ((pd_RC_cl E P v).2 w x y hx z)⟩
  rcases k with z | z
  · exact z.2
  · exact absurd (hP v z) nv
/-- the one step: K are picked, V of them removed; v is next, P the rest -/
theorem pe_step {E F : Nat → Nat → Prop} {K V P : Nat → Prop} {v : Nat} (irr : ∀ x, ¬ E x x)
    (hF : ∀ a b, F a b ↔ (¬ V a ∧ ¬ V b ∧ E a b)) (hV : ∀ x, V x → K x) (hK : ∀ x, K x → ¬ pe_C F x) (nv : ¬ K v) (hP : ∀ x, P x → ¬ K x) (pv : ¬ P v) (hR : ∀ x, pe_C F x → ¬ K x → x = v ∨ P x) :
    pe_D E P v ↔ pe_C F v := by
  have vV : ¬ V v := fun z => nv (hV v z)
  have pV : ∀ x, P x → ¬ V x := fun x px z => hP x px (hV x z)
  constructor
  · intro ⟨u, h1, h2⟩
    have h3 : pd_RC F P v u ∧ ¬ V u := h1 (fun x => pd_RC F P v x ∧ ¬ V x) ⟨fun x hx px => ⟨(pd_RC_cl F P v).1 x ((hF v x).mpr ⟨vV, pV x px, hx⟩) px, pV x px⟩,
      fun w x hw hx px => ⟨(pd_RC_cl F P v).2 w x hw.1 ((hF w x).mpr ⟨hw.2, pV x px, hx⟩) px, pV x px⟩⟩
    have h4 : pd_RC F (fun _ => True) v u := pe_mono (fun a b z _ => ⟨z, trivial⟩) h3.1
    exact (pd_RC_cl F _ v).2 u v h4 ((hF u v).mpr ⟨h3.2, vV, h2⟩) trivial
  · intro h
    have h1 := pe_all h
    obtain ⟨u, a, b⟩ := pe_back (P := P) (fun z => irr v ((hF v v).mp z).2.2) pv (fun x hx => hR x hx (fun z => hK x z hx)) h1
    exact ⟨u, pe_mono (fun a b z pb => ⟨((hF a b).mp z).2.2, pb⟩) a, ((hF u v).mp b).2.2⟩
/-! the order of the transactions, and the lowest -/
theorem pe_lt_trans {pr : Nat → Int32} {a b c : Nat} (h : pd_lt pr a b) (k : pd_lt pr b c) : pd_lt pr a c := by
  unfold pd_lt at *
  rw [Int32.lt_iff_toInt_lt, ← Int32.toInt_inj] at *
  omega
theorem pe_lt_tot {pr : Nat → Int32} {a b : Nat} (h : ¬ pd_lt pr a b) (n : a ≠ b) : pd_lt pr b a := by
  unfold pd_lt at *
  rw [Int32.lt_iff_toInt_lt, ← Int32.toInt_inj] at *
  omega
theorem pe_low_min (C : Nat → Prop) (pr : Nat → Int32) : ∀ n, n ≤ 8 → ∀ a, a < n → pd_low C pr n = nI a → ∀ t, t < n → C t → t = a ∨ pd_lt pr a t := by
  intro n
  induction n with
  | zero => intro _ a ha; omega
  | succ n ih =>
    intro hn a ha e t ht c
    by_cases h : C n ∧ (pd_low C pr n = -1 ∨ pd_lt pr n (pd_low C pr n).toNatClampNeg)
    · rw [pd_low_t h, nI_eq (by omega) (by omega)] at e
      subst e
      by_cases z : t = n
      · exact Or.inl z
      · rcases pd_low_is C pr n (by omega) with y | ⟨b, hb, eb, _⟩
        · exact absurd c (y.2 t (by omega))
        · have h2 := h.2
          rw [eb, nI_clamp (by omega)] at h2
          rcases h2 with y | y
          · exact absurd y (pd_m1 b (by omega))
          · rcases ih (by omega) b hb eb t (by omega) c with w | w
            · rw [w]; exact Or.inr y
            · exact Or.inr (pe_lt_trans y w)
    · rw [pd_low_f h] at e
      have an : a < n := by
        rcases pd_low_is C pr n (by omega) with y | ⟨b, hb, eb, _⟩
        · rw [y.1] at e; exact absurd e.symm (pd_m1 a (by omega))
        · rw [eb, nI_eq (by omega) (by omega)] at e; omega
      by_cases z : t = n
      · rw [z] at c
        have w : ¬ pd_lt pr n a := fun y => h ⟨c, Or.inr (by rw [e, nI_clamp (by omega)]; exact y)⟩
        rw [z]
        exact Or.inr (pe_lt_tot w (by omega))
      · exact ih (by omega) a an e t (by omega) c
/-- what the class takes for the lowest is the v next in order, if v is on a cycle -/
theorem pe_low_eq {C : Nat → Prop} {pr : Nat → Int32} {T v : Nat} (hT : T ≤ 8) (hv : v < T) (c : C v) (h : ∀ x, x < T → C x → x = v ∨ pd_lt pr v x) : pd_low C pr T = nI v := by
  rcases pd_low_is C pr T hT with y | ⟨b, hb, eb, cb⟩
  · exact absurd c (y.2 v hv)
  · rcases h b hb cb with z | z
    · rw [eb, z]
    · rcases pe_low_min C pr T hT b hb eb v hv c with w | w
      · rw [eb, w]
      · exfalso
        unfold pd_lt at z w
        rw [Int32.lt_iff_toInt_lt, ← Int32.toInt_inj] at z w
        omega
end
section
/-! bits of a long, and the law's tests of bits -/
def pl (g : Int64) (i : Nat) : Bool := g.toBitVec.getLsbD i
theorem pl_or (x y : Int64) (i : Nat) : pl (x ||| y) i = (pl x i || pl y i) := by unfold pl; rw [Int64.toBitVec_or, BitVec.getLsbD_or]
theorem pl_and (x y : Int64) (i : Nat) : pl (x &&& y) i = (pl x i && pl y i) := by unfold pl; rw [Int64.toBitVec_and, BitVec.getLsbD_and]
theorem pl_0 (i : Nat) : pl 0 i = false := BitVec.getLsbD_zero
theorem pl_sh : ∀ k, k < 64 → ((1 : Int64) <<< ((nI k).toInt64 &&& 63)).toBitVec = BitVec.twoPow 64 k := by decide +kernel
theorem pl_1 {k i : Nat} (hk : k < 64) : pl ((1 : Int64) <<< ((nI k).toInt64 &&& 63)) i = decide (i = k) := by
  unfold pl
  rw [pl_sh k hk, BitVec.getLsbD_twoPow]
  by_cases h : i = k
  · subst h; simp [hk]
  · simp [h, Ne.symm h]
theorem pl_su : ∀ k, k < 64 → (((nI k).toInt64.toUInt64 &&& Int64.toUInt64 63).toBitVec % 64).toNat = k := by decide +kernel
theorem pl_ushr (g : Int64) {k : Nat} (hk : k < 64) (i : Nat) : pl ((g.toUInt64 >>> ((nI k).toInt64.toUInt64 &&& Int64.toUInt64 63)).toInt64) i = pl g (k + i) := by
  show (g.toUInt64 >>> ((nI k).toInt64.toUInt64 &&& Int64.toUInt64 63)).toBitVec.getLsbD i = g.toUInt64.toBitVec.getLsbD (k + i)
  rw [UInt64.toBitVec_shiftRight]
  show (g.toUInt64.toBitVec >>> (((nI k).toInt64.toUInt64 &&& Int64.toUInt64 63).toBitVec % 64).toNat).getLsbD i = _
  rw [pl_su k hk, BitVec.getLsbD_ushiftRight]
theorem pl_i32 (x : Int64) {i : Nat} (hi : i < 32) : bt x.toInt32 i = pl x i := by
  unfold bt pl
  rw [Int64.toBitVec_toInt32, BitVec.getLsbD_signExtend]
  have h64 : i < 64 := by omega
  simp [hi, h64]
theorem pl_8 (v : Nat) : (8 : Int32) * nI v = nI (8 * v) := by
  rw [show (8 : Int32) = nI 8 from rfl, pk_mul]
theorem pl_4 (v : Nat) : (4 : Int32) * nI v = nI (4 * v) := by
  rw [show (4 : Int32) = nI 4 from rfl, pk_mul]
theorem pl_row (g : Int64) {v : Nat} (hv : v < 8) {u : Nat} (hu : u < 32) : bt ((((g.toUInt64 >>> ((8 * nI v).toInt64.toUInt64 &&& Int64.toUInt64 63)).toInt64).toInt32) &&& 255) u = (decide (u < 8) && pl g (8 * v + u)) := by
  rw [b_and, b_255, pl_8, pl_i32 _ hu, pl_ushr g (by omega), Bool.and_comm]
theorem pl_b1 (y : Int32) : (y &&& 1) = 1 ↔ bt y 0 = true := by
  rw [← Int32.toBitVec_inj, Int32.toBitVec_and]
  show (y.toBitVec &&& 1#32) = 1#32 ↔ y.toBitVec.getLsbD 0 = true
  rw [BitVec.and_one_eq_setWidth_ofBool_getLsbD]
  cases y.toBitVec.getLsbD 0 <;> decide
theorem pl_b0 (y : Int32) : (y &&& 1) = 0 ↔ bt y 0 = false := by
  rw [← Int32.toBitVec_inj, Int32.toBitVec_and]
  show (y.toBitVec &&& 1#32) = 0#32 ↔ y.toBitVec.getLsbD 0 = false
  rw [BitVec.and_one_eq_setWidth_ofBool_getLsbD]
  cases y.toBitVec.getLsbD 0 <;> decide
theorem pl_t1 (x : Int32) {u : Nat} (hu : u < 32) : ((x >>> (nI u &&& 31)) &&& 1) = 1 ↔ bt x u = true := by
  rw [pl_b1, b_sshr u hu x (by omega), if_pos (by omega)]
  exact Iff.rfl
theorem pl_t0 (x : Int32) {u : Nat} (hu : u < 32) : ((x >>> (nI u &&& 31)) &&& 1) = 0 ↔ bt x u = false := by
  rw [pl_b0, b_sshr u hu x (by omega), if_pos (by omega)]
  exact Iff.rfl
theorem pl_not (x : Int32) {v u : Nat} (hv : v < 32) (hu : u < 32) : bt (x &&& (((1 : Int32) <<< (nI v &&& 31)) ^^^ (-1))) u = (bt x u && decide (u ≠ v)) := by
  rw [b_and, b_xor, pd_bit hv, b_m1 u hu]
  by_cases h : u = v
  · simp [h]
  · simp [h]
theorem pl_full : ∀ T, T < 9 → ∀ i, i < 32 → bt (((1 : Int32) <<< (nI T &&& 31)) - 1) i = decide (i < T) := by decide +kernel
/-! the list of victims in a long, four bits each -/
def pl_list (g : Int64) (w : Nat → Nat) (c : Nat) : Prop := (∀ k, k < c → w k < 8 ∧ ∀ i, i < 4 → pl g (4 * k + i) = bt (nI (w k)) i) ∧ (∀ j, 4 * c ≤ j → pl g j = false)
theorem pl_list_0 (w : Nat → Nat) : pl_list 0 w 0 := ⟨fun _ h => by omega, fun j _ => pl_0 j⟩
theorem pl_big {g : Int64} {j : Nat} (h : 64 ≤ j) : pl g j = false := BitVec.getLsbD_of_ge _ _ h
theorem pl_vb : ∀ v, v < 8 → ∀ i, i < 64 → pl ((nI v).toInt64) i = (decide (i < 4) && bt (nI v) i) := by decide +kernel
theorem pl_sl : ∀ k, k < 64 → (((nI k).toInt64 &&& 63).toBitVec.smod 64).toNat = k := by decide +kernel
theorem pl_shl (x : Int64) {k : Nat} (hk : k < 64) {i : Nat} (hi : i < 64) : pl (x <<< ((nI k).toInt64 &&& 63)) i = (decide (k ≤ i) && pl x (i - k)) := by
  unfold pl
  rw [Int64.toBitVec_shiftLeft]
  show (x.toBitVec <<< (((nI k).toInt64 &&& 63).toBitVec.smod 64).toNat).getLsbD i = _
  rw [pl_sl k hk, BitVec.getLsbD_shiftLeft]
  rcases Nat.lt_or_ge i k with h | h
  · simp [h, Nat.not_le.mpr h]
  · simp [hi, h, Nat.not_lt.mpr h]
theorem pl_list_s {g : Int64} {w w' : Nat → Nat} {c v : Nat} (h : pl_list g w c) (hc : c < 8) (hv : v < 8) (hw : ∀ k, k < c → w' k = w k) (hw' : w' c = v) : pl_list (g ||| ((nI v).toInt64 <<< ((4 * nI c).toInt64 &&& 63))) w' (c + 1) := by
  rw [pl_4]
  refine ⟨fun k hk => ?_, fun j hj => ?_⟩
  · by_cases e : k = c
    · subst e
      rw [hw']
      refine ⟨hv, fun i hi => ?_⟩
      rw [pl_or, h.2 _ (by omega), pl_shl _ (by omega) (by omega), show 4 * k + i - 4 * k = i by omega, pl_vb v hv i (by omega)]
      simp [hi]
    · have hk' : k < c := by omega
      rw [hw k hk']
      refine ⟨(h.1 k hk').1, fun i hi => ?_⟩
      rw [pl_or, (h.1 k hk').2 i hi, pl_shl _ (by omega) (by omega)]
      have : ¬ 4 * c ≤ 4 * k + i := by omega
      simp [this]
  · by_cases e : j < 64
    · rw [pl_or, h.2 j (by omega), pl_shl _ (by omega) e, pl_vb v hv _ (by omega)]
      have : ¬ (j - 4 * c < 4) := by omega
      simp [this]
    · exact pl_big (by omega)
theorem pl_15 : ∀ i, i < 64 → pl 15 i = decide (i < 4) := by decide +kernel
theorem pl_nb : ∀ v, v < 8 → ∀ i, i < 32 → bt (nI v) i = (decide (i < 4) && bt (nI v) i) := by decide +kernel
theorem pl_nib {g : Int64} {w : Nat → Nat} {c k : Nat} (h : pl_list g w c) (hc : c ≤ 8) (hk : k < c) : ((((g.toUInt64 >>> ((4 * nI k).toInt64.toUInt64 &&& Int64.toUInt64 63)).toInt64) &&& 15).toInt32) = nI (w k) := by
  obtain ⟨hv, hb⟩ := h.1 k hk
  apply b_ext
  intro i hi
  rw [pl_i32 _ hi, pl_and, pl_15 i (by omega), pl_4, pl_ushr g (by omega)]
  by_cases z : i < 4
  · rw [hb i z]; simp [z]
  · rw [pl_nb (w k) hv i hi]; simp [z]
end
section
/-! the law's own search for a cycle -/
def pe_g (g : Int64) (a b : Nat) : Prop := a < 8 ∧ b < 8 ∧ pl g (8 * a + b) = true
theorem pe_g_lt (g : Int64) (a b : Nat) (h : pe_g g a b) : b < 8 := h.2.1
theorem lc_in {post : Int32 → Prop} {J : Int32 → Int32 → Prop} {g : Int64} {al r x2 : Int32} {v k : Nat}
    (hb : ∀ y, pe_g g v y → bt al y = true → bt r y = true)
    (hJ : ∀ r' : Int32, pd_pj 8 (pe_g g) (fun y => bt al y = true) v (bt r) 8 0 (bt r') → J r' (nI (k + 1))) :
    ∀ d j (r' : Int32), j + d = 8 → pd_pj 8 (pe_g g) (fun y => bt al y = true) v (bt r) j 0 (bt r') → wL_cycle_22 post J g x2 al (nI k) (d + 1) r' (nI j) := by
  intro d
  induction d with
  | zero =>
    intro j r' hj h
    have e : j = 8 := by omega
    subst e
    exact br_t (nI_le (a := 8) (by omega) (by omega)) (nm_r (nI_1 _) (hJ r' h))
  | succ d ih =>
    intro j r' hj h
    have hj8 : j < 8 := by omega
    refine br_f (nI_ge (b := 8) (by omega) (by decide)) ?_
    by_cases c : bt r' j = true
    · refine br_t ((pl_t1 r' (by omega)).mpr c) (nm_e (nm_r (nI_1 _) (ih (j + 1) _ (by omega) ?_)))
      refine pd_pj_all (pe_g_lt g) h hj8 c (fun y hy => ?_)
      rw [b_or, b_and, Bool.or_eq_true, Bool.and_eq_true, pl_row g hj8 (by omega)]
      simp only [hy, decide_true, Bool.true_and]
      exact ⟨fun z => z.elim Or.inl (fun w => Or.inr ⟨⟨hj8, hy, w.1⟩, w.2⟩), fun z => z.elim Or.inl (fun w => Or.inr ⟨w.1.2.2, w.2⟩)⟩
    · exact br_f (fun z => c ((pl_t1 r' (by omega)).mp z)) (nm_r (nI_1 _) (ih (j + 1) r' (by omega) (pd_pj_no hb (pe_g_lt g) h hj8 c)))
theorem lc_scan {post : Int32 → Prop} {g : Int64} {r : Int32} {v : Nat} (hv : v < 8) (h1 : (∃ u, u < 8 ∧ bt r u = true ∧ pe_g g u v) → post 1) (h0 : ¬ (∃ u, u < 8 ∧ bt r u = true ∧ pe_g g u v) → post 0) :
    ∀ d j, j + d = 8 → (∀ u, u < j → ¬ (bt r u = true ∧ pe_g g u v)) → wL_cycle_68 post g (nI v) r (d + 1) (nI j) := by
  intro d
  induction d with
  | zero =>
    intro j hj h
    exact br_t (nI_le (a := 8) (by omega) (by omega)) (h0 (fun ⟨u, hu, z⟩ => h u (by omega) z))
  | succ d ih =>
    intro j hj h
    have hj8 : j < 8 := by omega
    have go : ¬ (bt r j = true ∧ pe_g g j v) → wL_cycle_68 post g (nI v) r (d + 1) (nI (j + 1)) := fun c => ih (j + 1) (by omega) (fun u hu => by
      by_cases z : u = j
      · rw [z]; exact c
      · exact h u (by omega))
    refine br_f (nI_ge (b := 8) (by omega) (by decide)) ?_
    by_cases c : bt r j = true
    · refine br_t ((pl_t1 r (by omega)).mpr c) ?_
      have key : bt ((((g.toUInt64 >>> ((8 * nI j).toInt64.toUInt64 &&& Int64.toUInt64 63)).toInt64).toInt32) &&& 255) v = true ↔ pe_g g j v := by
        rw [pl_row g hj8 (by omega)]
        simp only [hv, decide_true, Bool.true_and]
        exact ⟨fun z => ⟨hj8, hv, z⟩, fun z => z.2.2⟩
      by_cases z : pe_g g j v
      · exact br_t ((pl_t1 _ (by omega)).mpr (key.mpr z)) (h1 ⟨j, hj8, c, z⟩)
      · exact br_f (fun y => z (key.mp ((pl_t1 _ (by omega)).mp y))) (nm_r (nI_1 _) (go (fun w => z w.2)))
    · exact br_f (fun z => c ((pl_t1 r (by omega)).mp z)) (nm_r (nI_1 _) (go (fun w => c w.1)))
theorem lc_out {post : Int32 → Prop} {g : Int64} {al : Int32} {v : Nat} (hv : v < 8) (h1 : pe_D (pe_g g) (fun y => bt al y = true) v → post 1) (h0 : ¬ pe_D (pe_g g) (fun y => bt al y = true) v → post 0) :
    ∀ d k (r : Int32), k + d = 8 → (∀ y, pe_g g v y → bt al y = true → bt r y = true) → pd_po 8 (pe_g g) (fun y => bt al y = true) v (k + 1) (bt r) → wL_cycle_12 post g (nI v) al (d + 1) r (nI k) := by
  intro d
  induction d with
  | zero =>
    intro k r hk hb h
    have h8 : pd_po 8 (pe_g g) (fun y => bt al y = true) v 8 (bt r) := ⟨h.1, h.2.elim Or.inl (fun z => Or.inr (by omega))⟩
    have hr := pd_po_e (pe_g_lt g) h8
    have key : (∃ u, u < 8 ∧ bt r u = true ∧ pe_g g u v) ↔ pe_D (pe_g g) (fun y => bt al y = true) v :=
      ⟨fun ⟨u, hu, a, b⟩ => ⟨u, (hr u hu).mp a, b⟩, fun ⟨u, a, b⟩ => ⟨u, b.1, (hr u b.1).mpr a, b⟩⟩
    exact br_t (nI_le (a := 8) (by omega) (by omega)) ⟨9, lc_scan hv (fun z => h1 (key.mp z)) (fun z => h0 (fun y => z (key.mpr y))) 8 0 (by omega) (fun u hu => by omega)⟩
  | succ d ih =>
    intro k r hk hb h
    refine br_f (nI_ge (b := 8) (by omega) (by decide)) ⟨9, lc_in (r := r) (v := v) hb (fun r' h' => ?_) 8 0 r (by omega) (pd_pj_0 (bt r))⟩
    exact ih (k + 1) r' (by omega) (fun y hy py => h'.1 y (pe_g_lt g _ _ hy) (hb y hy py)) (pd_po_s (pe_g_lt g) hv h h')
theorem lc_cycle {post : Int32 → Prop} {g : Int64} {al : Int32} {v : Nat} (hv : v < 8) (h1 : pe_D (pe_g g) (fun y => bt al y = true) v → post 1) (h0 : ¬ pe_D (pe_g g) (fun y => bt al y = true) v → post 0) : wpL_cycle post () g (nI v) al := by
  refine nm_e ⟨9, ?_⟩
  have hr : ∀ u, u < 8 → (bt ((((((g.toUInt64 >>> ((8 * nI v).toInt64.toUInt64 &&& Int64.toUInt64 63)).toInt64).toInt32) &&& 255)) &&& al) u = true ↔ (pe_g g v u ∧ bt al u = true)) := fun u hu => by
    rw [b_and, Bool.and_eq_true, pl_row g hv (by omega)]
    simp only [hu, decide_true, Bool.true_and]
    exact ⟨fun z => ⟨⟨hv, hu, z.1⟩, z.2⟩, fun z => ⟨z.1.2.2, z.2⟩⟩
  exact lc_out hv h1 h0 8 0 _ (by omega) (fun y hy py => (hr y (pe_g_lt g _ _ hy)).mpr ⟨hy, py⟩) (pd_po_1 (pe_g_lt g) hr)
theorem lc_cyc_l {post : Int32 → Prop} {g : Int64} (h : ∀ v, v < 8 → ¬ pe_C (pe_g g) v) (hp : post 0) : ∀ d j, j + d = 8 → wL_cyclic_2 post g (d + 1) (nI j) := by
  intro d
  induction d with
  | zero =>
    intro j hj
    exact br_t (nI_le (a := 8) (by omega) (by omega)) hp
  | succ d ih =>
    intro j hj
    refine br_f (nI_ge (b := 8) (by omega) (by decide)) (lc_cycle (by omega) (fun z => ?_) (fun _ => br_t rfl (nm_r (nI_1 _) (ih (j + 1) (by omega)))))
    obtain ⟨u, a, b⟩ := z
    exact absurd ((pd_RC_cl (pe_g g) (fun _ => True) j).2 u j (pe_mono (fun x y w _ => ⟨w, trivial⟩) a) b trivial) (h j (by omega))
theorem lc_cyclic {post : Int32 → Prop} {g : Int64} (h : ∀ v, v < 8 → ¬ pe_C (pe_g g) v) (hp : post 0) : wpL_cyclic post () g :=
  ⟨9, lc_cyc_l h hp 8 0 (by omega)⟩
end
section
/-! the component's answers -/
theorem xr_waits {T L S : Nat} {n : Int32} {st pr hd vl : Nat → Int32} {q : Nat → Nat → Nat} {m : Nat → Nat → Int32} {post : Int32 → Prop} {x t u : Nat} {s : Nat → Int32} (hT : T ≤ 8) (hL : L ≤ 12) (R : pd_R x T L q m s st hd) (ht : t < T) (hu : u < T) (ne : t ≠ u)
    (h2 : pd_E T L q m t u → post 2) (h1 : ¬ pd_E T L q m t u → pd_E1 T L q t u → post 1) (h0 : ¬ pd_E T L q m t u → ¬ pd_E1 T L q t u → post 0) : wpX_waitsFor post (nI T, nI L, nI S, n, st, pr, hd, pd_xp (pd_p q), pd_x m, vl) (nI t) (nI u) := by
  unfold wpX_waitsFor
  dsimp only
  refine xw_isT_t hT ht (br_f (by decide) (xw_isT_t hT hu (br_f (by decide) ?_)))
  refine br_f (fun z => ne ((nI_eq (by omega) (by omega)).mp z)) (xw_rep hT hL R ht (fun r h => xw_has (by omega) (fun y => br_f (by decide) (h2 ((h u (by omega)).mp y))) (fun y => br_t rfl (xw_all hT hL R ht (fun r' h' => xw_has (by omega) (fun y' => br_f (by decide) ?_) (fun y' => br_t rfl ?_))))))
  · exact h1 (fun z => by rw [(h u (by omega)).mpr z] at y; exact nomatch y) ((h' u (by omega)).mp y')
  · exact h0 (fun z => by rw [(h u (by omega)).mpr z] at y; exact nomatch y) (fun z => by rw [(h' u (by omega)).mpr z] at y'; exact nomatch y')
theorem xr_state {T L S : Nat} {n : Int32} {st pr hd vl : Nat → Int32} {p : Nat → Nat → Nat} {m : Nat → Nat → Int32} {post : Int32 → Prop} {t : Nat} (hT : T ≤ 8) (ht : t < T) (hp : post (st t)) : wpX_state post (nI T, nI L, nI S, n, st, pr, hd, pd_xp p, pd_x m, vl) (nI t) := by
  unfold wpX_state
  dsimp only
  rw [nI_clamp (n := t) (by omega)]
  exact xw_isT_t hT ht (br_f (by decide) ⟨vp_in_nI (by omega) (by decide), hp⟩)
theorem xr_victim {T L S : Nat} {st pr hd vl : Nat → Int32} {p : Nat → Nat → Nat} {m : Nat → Nat → Int32} {post : Int32 → Prop} {k c : Nat} (hc : c ≤ 8) (hk : k < c) (hp : post (vl k)) : wpX_victim post (nI T, nI L, nI S, nI c, st, pr, hd, pd_xp p, pd_x m, vl) (nI k) := by
  unfold wpX_victim
  dsimp only
  rw [nI_clamp (n := k) (by omega)]
  exact br_f (nI_pos (by omega)) (br_f (nI_ge hk (by omega)) ⟨vp_in_nI (by omega) (by decide), hp⟩)
theorem xr_holder {T L S : Nat} {n : Int32} {st pr hd vl : Nat → Int32} {p : Nat → Nat → Nat} {m : Nat → Nat → Int32} {post : Int32 → Prop} {l : Nat} (hL : L ≤ 12) (hl : l < L) (hp : post (hd l)) : wpX_holder post (nI T, nI L, nI S, n, st, pr, hd, pd_xp p, pd_x m, vl) (nI l) := by
  unfold wpX_holder
  dsimp only
  rw [nI_clamp (n := l) (by omega)]
  exact xw_isL_t hL hl (br_f (by decide) ⟨vp_in_nI (by omega) (by decide), hp⟩)
theorem xr_waiter {T L S : Nat} {n : Int32} {st pr hd vl : Nat → Int32} {q : Nat → Nat → Nat} {m : Nat → Nat → Int32} {post : Int32 → Prop} {l i : Nat} (hT : T ≤ 8) (hL : L ≤ 12) (hb : ∀ a b, q a b < 16) (hl : l < L) (hi : i < T) (h1 : ∀ t, t < T → q l t = i + 2 → post (nI t)) (h0 : (∀ t, t < T → q l t ≠ i + 2) → post (-1)) : wpX_waiter post (nI T, nI L, nI S, n, st, pr, hd, pd_xp (pd_p q), pd_x m, vl) (nI l) (nI i) := by
  unfold wpX_waiter
  dsimp only
  rw [show (1 : Int32) + nI i = nI (i + 1) from (nI_add 1 i).trans (congrArg nI (Nat.add_comm 1 i))]
  refine xw_isL_t hL hl (br_f (by decide) (br_f (nI_pos (by omega)) (br_t (nI_lt hi (by omega)) (xw_at hT (pd_p_lt hb) (by omega) (by omega) (fun t ht e => h1 t ht ?_) (fun hn => h0 (fun t ht e => hn t ht ?_))))))
  · have z : q l t - 1 = i + 1 := e
    omega
  · show q l t - 1 = i + 1
    omega
theorem xr_reported {T L S : Nat} {n : Int32} {st pr hd vl : Nat → Int32} {p : Nat → Nat → Nat} {m : Nat → Nat → Int32} {post : Int32 → Prop} {l t : Nat} (hT : T ≤ 8) (hL : L ≤ 12) (ht : t < T) (hl : l < L) (h1 : m l t ≠ 0 → post 1) (h0 : m l t = 0 → post 0) : wpX_reported post (nI T, nI L, nI S, n, st, pr, hd, pd_xp p, pd_x m, vl) (nI t) (nI l) := by
  unfold wpX_reported
  dsimp only
  rw [pd_ix8, nI_clamp (n := l * 8 + t) (by omega), pd_x_at m (by omega)]
  exact xw_isT_t hT ht (br_f (by decide) (xw_isL_t hL hl (br_f (by decide) ⟨vp_in_nI (by omega) (by decide), br_c h0 h1⟩)))
theorem xr_prio {T L S : Nat} {n : Int32} {st pr hd vl : Nat → Int32} {q : Nat → Nat → Nat} {m : Nat → Nat → Int32} {post : Int32 → Prop} {t : Nat} {s : Nat → Int32} (hT : T ≤ 8) (ht : t < T) (hS : pd_S L q s st t) (h1 : s t = 1 → post (pr t)) (h0 : s t ≠ 1 → post (-1)) : wpX_priority post (nI T, nI L, nI S, n, st, pr, hd, pd_xp (pd_p q), pd_x m, vl) (nI t) := by
  unfold wpX_priority
  dsimp only
  have hl := pd_S_live hS
  rw [nI_clamp (n := t) (by omega)]
  exact xw_isT_t hT ht (br_f (by decide) (xw_live (by omega) (fun z => br_f (by decide) ⟨vp_in_nI (by omega) (by decide), h1 (hl.mp z)⟩) (fun z => br_t rfl (h0 (fun y => z (hl.mpr y))))))
/-! the calls that end nobody by themselves: edges only vanish, nobody becomes a victim -/
def pe_St (T L : Nat) (q : Nat → Nat → Nat) (m : Nat → Nat → Int32) (s : Nat → Int32) (q' : Nat → Nat → Nat) (m' : Nat → Nat → Int32) (s' : Nat → Int32) : Prop :=
  (∀ a b, pd_E T L q' m' a b → pd_E T L q m a b) ∧ (∀ v, s' v = 3 → s v = 3)
theorem pe_St_id {T L : Nat} {q : Nat → Nat → Nat} {m : Nat → Nat → Int32} {s : Nat → Int32} : pe_St T L q m s q m s := ⟨fun _ _ h => h, fun _ h => h⟩
theorem pe_set {T L : Nat} {q : Nat → Nat → Nat} {m : Nat → Nat → Int32} {s : Nat → Int32} {l t k : Nat} (h : pd_G T L q m s) (hl : l < L) (ht : t < T) (e : q l t = 0) (hk : ∀ a, a < T → q l a ≤ k) (a b : Nat) (z : pd_E T L (pd_set q l t k) m a b) : pd_E T L q m a b := by
  obtain ⟨ha, hb, l', hl', z1, z2, z3⟩ := z
  have nb : ¬ (l' = l ∧ a = t) := fun c => by
    rw [c.1, c.2] at z1
    have := h.2.1 l t hl ht z1
    omega
  rw [pd_set_ne _ _ _ _ nb] at z3
  by_cases c : l' = l ∧ b = t
  · rw [c.1, c.2, pd_set_at] at z3
    have := hk a ha
    omega
  · rw [pd_set_ne _ _ _ _ c] at z2 z3
    exact ⟨ha, hb, l', hl', z1, z2, z3⟩
theorem pe_rem_sub {T L : Nat} {q : Nat → Nat → Nat} {m : Nat → Nat → Int32} {s : Nat → Int32} {l t : Nat} (h : pd_G T L q m s) (hl : l < L) (ht : t < T) (e : q l t ≠ 0) (a b : Nat) (z : pd_E T L (pd_rem T q l t) (pd_mrem T q m l t) a b) : pd_E T L q m a b := by
  by_cases na : a = t
  · obtain ⟨ha, hb, l', hl', z1, z2, z3⟩ := z
    by_cases y : l' = l
    · exact absurd (if_pos ⟨y, Or.inl na⟩ : pd_mrem T q m l t l' a = 0) z1
    · rw [show pd_mrem T q m l t l' a = m l' a from if_neg (fun c => y c.1)] at z1
      rw [pd_rem_rows _ _ _ _ y] at z2 z3
      exact ⟨ha, hb, l', hl', z1, z2, z3⟩
  · by_cases nb : b = t
    · obtain ⟨ha, hb, l', hl', z1, z2, z3⟩ := z
      by_cases y : l' = l
      · rw [y, nb, pd_rem_t] at z2
        exact absurd rfl z2
      · rw [show pd_mrem T q m l t l' a = m l' a from if_neg (fun c => y c.1)] at z1
        rw [pd_rem_rows _ _ _ _ y] at z2 z3
        exact ⟨ha, hb, l', hl', z1, z2, z3⟩
    · exact (pe_rem h hl ht e na nb).mp z
theorem xr_begin {T L S : Nat} {n : Int32} {st pr hd vl : Nat → Int32} {q : Nat → Nat → Nat} {m : Nat → Nat → Int32} {post : Int32 → St2 → Prop} {t : Nat} {v2 : Int32} {s : Nat → Int32} (hT : T ≤ 8) (R : pd_R 8 T L q m s st hd) (ht : t < T)
    (K : ∀ (r : Int32) (s' st' pr' : Nat → Int32), pd_R 8 T L q m s' st' hd → pe_St T L q m s q m s' → post r (nI T, nI L, nI S, n, st', pr', hd, pd_xp (pd_p q), pd_x m, vl)) : wpX_begin post (nI T, nI L, nI S, n, st, pr, hd, pd_xp (pd_p q), pd_x m, vl) (nI t) v2 := by
  have hi : vp_in (nI t) 8 := vp_in_nI (by omega) (by decide)
  have hS := pd_S_live (R.2.2 t ht (by omega))
  unfold wpX_begin
  dsimp only
  rw [nI_clamp (n := t) (by omega)]
  refine xw_isT_t hT ht (br_f (by decide) (br_c (fun _ => K 0 s st pr R pe_St_id) (fun _ => br_c (fun _ => K 0 s st pr R pe_St_id) (fun _ => xw_live (by omega) (fun z => br_f (by decide) (K 0 s st pr R pe_St_id)) (fun z => br_t rfl ⟨hi, nm_e ⟨hi, nm_e ?_⟩⟩)))))
  refine K 1 (upd s t 1) (upd st t 1) (upd pr t v2) (pd_R_begin R ht (fun y => z (hS.mpr y))) ⟨fun _ _ h => h, fun v e => ?_⟩
  by_cases w : v = t
  · rw [w, pk_us] at e; exact absurd e (by decide)
  · rw [pk_un w] at e; exact e
theorem xr_request {T L S : Nat} {n : Int32} {st pr hd vl : Nat → Int32} {q : Nat → Nat → Nat} {m : Nat → Nat → Int32} {post : Int32 → St2 → Prop} {t : Nat} {v2 : Int32} {s : Nat → Int32} (hT : T ≤ 8) (hL : L ≤ 12) (R : pd_R 8 T L q m s st hd) (ht : t < T)
    (K : ∀ (r : Int32) (q' : Nat → Nat → Nat) (st' hd' : Nat → Int32), pd_R 8 T L q' m s st' hd' → pe_St T L q m s q' m s → post r (nI T, nI L, nI S, n, st', pr, hd', pd_xp (pd_p q'), pd_x m, vl)) : wpX_request post (nI T, nI L, nI S, n, st, pr, hd, pd_xp (pd_p q), pd_x m, vl) (nI t) v2 := by
  have hb := R.1.2.2.2
  have K0 := K 0 q st hd R pe_St_id
  have hS := pd_S_live (R.2.2 t ht (by omega))
  unfold wpX_request
  dsimp only
  refine xw_isT_t hT ht (br_f (by decide) ?_)
  rcases pk_ix v2 (n := L) (by omega) with h | h | ⟨l, hl, rfl⟩
  · exact xw_isL_f (Or.inl h) (br_t rfl K0)
  · exact xw_isL_f (Or.inr h) (br_t rfl K0)
  · have hl12 : vp_in (nI l) 12 := vp_in_nI (by omega) (by decide)
    have hH := R.2.1 l hl
    rw [nI_clamp (n := l) (by omega), nI_clamp (n := t) (by omega)]
    refine xw_isL_t hL hl (br_f (by decide) (xw_live (by omega) (fun z => br_f (by decide) ⟨hl12, ?_⟩) (fun z => br_t rfl K0)))
    have hs := hS.mp z
    refine br_c (fun _ => K0) (fun e1' => xw_isQ (pd_p_lt hb) (by omega) (by omega) (fun y => br_f (by decide) K0) (fun y => br_t rfl ⟨hl12, ?_⟩))
    have e1 : q l t ≠ 1 := fun y => e1' ((pd_H_iff hT hH ht).mpr y)
    have e0 : q l t = 0 := by have y2 : q l t - 1 = 0 := y; omega
    by_cases eh : hd l = -1
    · have hn := (pd_H_none hT hH).mp eh
      have n0 := pd_n_0 (R.1.1 l hl) hn
      have ep : pd_p (pd_set q l t 1) = pd_p q := by
        funext x y
        show pd_set q l t 1 x y - 1 = q x y - 1
        by_cases w : x = l ∧ y = t
        · rw [w.1, w.2, pd_set_at, e0]
        · rw [pd_set_ne _ _ _ _ w]
      have k := K 1 (pd_set q l t 1) st (upd hd l (nI t)) (pd_R_grant hT R hl ht e0 hs hn) ⟨pe_set R.1 hl ht e0 (fun a ha => by have := (R.1.1 l hl).1 a ha; omega), fun _ h => h⟩
      rw [ep] at k
      exact br_t eh ⟨hl12, nm_e k⟩
    · have hh : ∃ u, u < T ∧ q l u = 1 := Classical.byContradiction (fun w => eh (hH.2 (fun u hu z => w ⟨u, hu, z⟩)))
      obtain ⟨u, hu, eu⟩ := hh
      have nt := pd_n_tail (R.1.1 l hl) hu eu
      have ep : pd_p (pd_set q l t (pd_n T (q l) + 1)) = pd_set (pd_p q) l t (pd_n T (pd_p q l) + 1) := by
        funext x y
        show pd_set q l t (pd_n T (q l) + 1) x y - 1 = _
        by_cases w : x = l ∧ y = t
        · rw [w.1, w.2, pd_set_at, pd_set_at, nt]
          rfl
        · rw [pd_set_ne _ _ _ _ w, pd_set_ne _ _ _ _ w]
          rfl
      have k := K 2 (pd_set q l t (pd_n T (q l) + 1)) (upd st t 2) hd (pd_R_queue hT R hl ht e0 hs (by omega)) ⟨pe_set R.1 hl ht e0 (fun a ha => by have := (R.1.1 l hl).1 a ha; omega), fun _ h => h⟩
      rw [ep] at k
      exact br_f eh (xw_enqueue hT (pd_p_lt hb) (by omega) (by omega) ⟨vp_in_nI (by omega) (by decide), nm_e k⟩)
theorem xr_drop {T L S : Nat} {n : Int32} {st pr hd vl : Nat → Int32} {q : Nat → Nat → Nat} {m : Nat → Nat → Int32} {post : Int32 → St2 → Prop} {t : Nat} {v2 : Int32} {s : Nat → Int32} (hT : T ≤ 8) (hL : L ≤ 12) (R : pd_R 8 T L q m s st hd) (ht : t < T)
    (K : ∀ (r : Int32) (q' : Nat → Nat → Nat) (m' : Nat → Nat → Int32) (st' hd' : Nat → Int32), pd_R 8 T L q' m' s st' hd' → pe_St T L q m s q' m' s → post r (nI T, nI L, nI S, n, st', pr, hd', pd_xp (pd_p q'), pd_x (m'), vl)) : wpX_drop post (nI T, nI L, nI S, n, st, pr, hd, pd_xp (pd_p q), pd_x m, vl) (nI t) v2 := by
  have hb := R.1.2.2.2
  have K0 := K 0 q m st hd R pe_St_id
  unfold wpX_drop
  dsimp only
  refine xw_isT_t hT ht (br_f (by decide) ?_)
  rcases pk_ix v2 (n := L) (by omega) with h | h | ⟨l, hl, rfl⟩
  · exact xw_isL_f (Or.inl h) (br_t rfl K0)
  · exact xw_isL_f (Or.inr h) (br_t rfl K0)
  · have hl12 : vp_in (nI l) 12 := vp_in_nI (by omega) (by decide)
    have hH := R.2.1 l hl
    rw [nI_clamp (n := l) (by omega)]
    refine xw_isL_t hL hl (br_f (by decide) ⟨hl12, ?_⟩)
    by_cases e1 : q l t = 1
    · have hE := pe_rem_sub R.1 hl ht (by omega : q l t ≠ 0)
      refine br_t ((pd_H_iff hT hH ht).mpr e1) (xw_pass hT hL (pd_p_lt hb) (by omega) (fun hn => ?_) (fun u hu eu st' w1 w0 => ?_))
      · have hn2 : ∀ u, u < T → q l u ≠ 2 := fun u hu z => hn u hu (by show q l u - 1 = 1; omega)
        have hN := pd_h_none R.1 hl ht e1 hn2
        rw [hN.2] at hE
        have k := K 3 (pd_rem T q l t) m st (upd hd l (-1)) (pd_R_hold0 R hl ht e1 hn2) ⟨hE, fun _ h => h⟩
        rw [hN.1] at k
        exact k
      · have en : q l u = 2 := by have z : q l u - 1 = 1 := eu; omega
        have hN := pd_h_next R.1 hl ht e1 hu en
        rw [hN.2] at hE
        have k := K 3 (pd_rem T q l t) (pd_set m l u 0) st' (upd hd l (nI u)) (pd_R_hold1 (st' := st') R hl ht e1 hu en (by omega) (fun w => w1 (by rw [pd_W_p, hN.1] at w; exact w)) (fun w => w0 (fun a ha => by rw [← hN.1]; exact Classical.byContradiction (fun z => w (pd_W_p.mpr ⟨a, ha, z⟩))))) ⟨hE, fun _ h => h⟩
        rw [hN.1] at k
        exact k
    · refine br_f (fun y => e1 ((pd_H_iff hT hH ht).mp y)) (xw_isQ (pd_p_lt hb) (by omega) (by omega) (fun y => br_f (by decide) (xw_take hT (pd_p_lt hb) (by omega) (by omega) ?_)) (fun y => br_t rfl K0))
      have e2 : 2 ≤ q l t := by have z : q l t - 1 ≠ 0 := y; omega
      have hE := pe_rem_sub R.1 hl ht (by omega : q l t ≠ 0)
      have eX := pd_q_p (T := T) e2
      rw [pd_q_m (T := T) (m := m) e2] at hE
      have fin : ∀ st' : Nat → Int32, (pd_W L (pd_rem T q l t) t → st' = st) → (¬ pd_W L (pd_rem T q l t) t → st' = upd st t 1) → post 4 (nI T, nI L, nI S, n, st', pr, hd, pd_xp (pd_rem T (pd_p q) l t), pd_x (pd_set m l t 0), vl) := fun st' w1 w0 => by
        rw [eX]
        exact K 4 (pd_rem T q l t) (pd_set m l t 0) st' hd (pd_R_with hT R hl ht e2 w1 w0) ⟨hE, fun _ h => h⟩
      dsimp only
      refine xw_run (t := t) hL (pd_rem_lt (pd_p_lt hb)) (by omega) (fun z => ?_) (fun z => ?_)
      · have hw : pd_W L (pd_rem T q l t) t := by rw [pd_W_p, ← eX]; exact z
        exact fin st (fun _ => rfl) (fun w => absurd hw w)
      · have hw : ¬ pd_W L (pd_rem T q l t) t := by rw [pd_W_p, ← eX]; exact fun ⟨a, ha, w⟩ => w (z a ha)
        exact fin (upd st t 1) (fun w => absurd w hw) (fun _ => rfl)
theorem pe_St_end {T L : Nat} {q : Nat → Nat → Nat} {m : Nat → Nat → Int32} {s : Nat → Int32} {t : Nat} (h : pd_G T L q m s) (ht : t < T) : pe_St T L q m s (pd_end T L t q m).1 (pd_end T L t q m).2 (upd s t 0) :=
  ⟨fun a b z => ((pe_end h ht a b).mp z).2.2, fun v e => by
    by_cases w : v = t
    · rw [w, pk_us] at e; exact absurd e (by decide)
    · rw [pk_un w] at e; exact e⟩
theorem xr_commit {T L S : Nat} {n : Int32} {st pr hd vl : Nat → Int32} {q : Nat → Nat → Nat} {m : Nat → Nat → Int32} {post : Int32 → St2 → Prop} {t : Nat} {s : Nat → Int32} (hT : T ≤ 8) (hL : L ≤ 12) (R : pd_R 8 T L q m s st hd) (ht : t < T)
    (K : ∀ (r : Int32) (q' : Nat → Nat → Nat) (m' : Nat → Nat → Int32) (s' st' hd' : Nat → Int32), pd_R 8 T L q' m' s' st' hd' → pe_St T L q m s q' m' s' → post r (nI T, nI L, nI S, n, st', pr, hd', pd_xp (pd_p q'), pd_x (m'), vl)) : wpX_commit post (nI T, nI L, nI S, n, st, pr, hd, pd_xp (pd_p q), pd_x m, vl) (nI t) := by
  unfold wpX_commit
  dsimp only
  rw [nI_clamp (n := t) (by omega)]
  exact xw_isT_t hT ht (br_f (by decide) ⟨vp_in_nI (by omega) (by decide), br_c (fun _ => xw_end hT hL ht (Or.inl rfl) R (fun st' hd' R' => K 1 _ _ _ st' hd' R' (pe_St_end R.1 ht))) (fun _ => K 0 q m s st hd R pe_St_id)⟩)
theorem xr_abort {T L S : Nat} {n : Int32} {st pr hd vl : Nat → Int32} {q : Nat → Nat → Nat} {m : Nat → Nat → Int32} {post : Int32 → St2 → Prop} {t : Nat} {s : Nat → Int32} (hT : T ≤ 8) (hL : L ≤ 12) (R : pd_R 8 T L q m s st hd) (ht : t < T)
    (K : ∀ (r : Int32) (q' : Nat → Nat → Nat) (m' : Nat → Nat → Int32) (s' st' hd' : Nat → Int32), pd_R 8 T L q' m' s' st' hd' → pe_St T L q m s q' m' s' → post r (nI T, nI L, nI S, n, st', pr, hd', pd_xp (pd_p q'), pd_x (m'), vl)) : wpX_abort post (nI T, nI L, nI S, n, st, pr, hd, pd_xp (pd_p q), pd_x m, vl) (nI t) := by
  unfold wpX_abort
  dsimp only
  exact xw_isT_t hT ht (br_f (by decide) (xw_live (by omega) (fun _ => br_f (by decide) (xw_end hT hL ht (Or.inl rfl) R (fun st' hd' R' => K 1 _ _ _ st' hd' R' (pe_St_end R.1 ht)))) (fun _ => br_t rfl (K 0 q m s st hd R pe_St_id))))
end
section
/-! the marks of a site, of all sites -/
theorem pd_mk_mk {p1 p2 p3 : Nat → Nat → Bool} {m : Nat → Nat → Int32} (h : ∀ a b, p3 a b = true ↔ p1 a b = true ∨ p2 a b = true) : pd_mk p1 (pd_mk p2 m) = pd_mk p3 m := by
  funext a b
  exact pd_if2 (h a b).symm
theorem pd_R_mk {x T L : Nat} {q : Nat → Nat → Nat} {m : Nat → Nat → Int32} {s st hd : Nat → Int32} {p : Nat → Nat → Bool} (h : pd_R x T L q m s st hd) (hm : ∀ a b, p a b = true → 2 ≤ q a b) : pd_R x T L q (pd_mk p m) s st hd :=
  pd_R_mark h (fun l t c => (pd_mk_m c).elim Or.inl (fun y => Or.inr (hm l t y)))
def pd_ms (S x T j : Nat) (q : Nat → Nat → Nat) : Nat → Nat → Bool := fun a b => decide (a < j ∧ a % S = x ∧ b < T ∧ 2 ≤ q a b)
def pd_ma (T j : Nat) (q : Nat → Nat → Nat) : Nat → Nat → Bool := fun a b => decide (a < j ∧ b < T ∧ 2 ≤ q a b)
theorem pd_ms_0 {S x T : Nat} {q : Nat → Nat → Nat} {m : Nat → Nat → Int32} : pd_mk (pd_ms S x T 0 q) m = m := by
  rw [← pd_mk_c (p := fun _ _ => false) (fun a b => by simp [pd_ms]), pd_mk_0]
theorem pd_ma_0 {T : Nat} {q : Nat → Nat → Nat} {m : Nat → Nat → Int32} : pd_mk (pd_ma T 0 q) m = m := by
  rw [← pd_mk_c (p := fun _ _ => false) (fun a b => by simp [pd_ma]), pd_mk_0]
theorem xw_rp_l {T L S : Nat} {n : Int32} {st pr hd vl : Nat → Int32} {q : Nat → Nat → Nat} {m : Nat → Nat → Int32} {post : Int32 → St2 → Prop} {x : Nat} (hT : T ≤ 8) (hL : L ≤ 12) (hS1 : 1 ≤ S) (hS : S ≤ 4) (hx : x < S) (hb : ∀ a b, q a b < 16)
    (K : wpX_resolve (fun u => match u with | (f1, f2, f3, f4, a1, a2, a3, a4, a5, a6) => post f4 (f1, f2, f3, f4, a1, a2, a3, a4, a5, a6)) (nI T, nI L, nI S, n, st, pr, hd, pd_xp (pd_p q), pd_x (pd_mk (pd_ms S x T L q) m), vl)) :
    ∀ d j, j + d = L → wX_report_16 post (nI x) (d + 1) (nI j) (nI T) (nI L) (nI S) n st pr hd (pd_xp (pd_p q)) (pd_x (pd_mk (pd_ms S x T j q) m)) vl := by
  intro d
  induction d with
  | zero =>
    intro j hj
    have e : j = L := by omega
    subst e
    exact br_t (nI_le (Nat.le_refl _) (by omega)) K
  | succ d ih =>
    intro j hj
    have i := ih (j + 1) (by omega)
    refine br_f (nI_ge (by omega) (by omega)) ⟨nI_ne0 (by omega) (by omega), ?_⟩
    rw [pk_rem (by omega) (by omega) (by omega)]
    have hm := Nat.mod_lt j (show 0 < S by omega)
    by_cases z : j % S = x
    · refine br_t (by rw [z]) (xw_mark hT (pd_p_lt hb) (by omega) ?_)
      rw [pd_mk_mk (p3 := pd_ms S x T (j + 1) q) (fun a b => ?_)]
      · exact nm_r (nI_1 _) i
      · simp only [pd_ms, decide_eq_true_eq]
        simp only [pd_p]
        constructor
        · intro y
          by_cases w : a = j
          · exact Or.inl ⟨w, y.2.2.1, by omega⟩
          · exact Or.inr ⟨by omega, y.2⟩
        · intro y
          rcases y with y | y
          · exact ⟨by omega, by rw [y.1]; exact z, y.2.1, by omega⟩
          · exact ⟨by omega, y.2⟩
    · rw [← pd_mk_c (p := pd_ms S x T j q) (fun a b => ?_)] at i
      · exact br_f (fun y => z ((nI_eq (by omega) (by omega)).mp y)) (nm_r (nI_1 _) i)
      · simp only [pd_ms, decide_eq_true_eq]
        constructor
        · intro y
          have : a ≠ j := fun w => z (by rw [← w]; exact y.2.1)
          exact ⟨by omega, y.2⟩
        · intro y
          exact ⟨by omega, y.2⟩
theorem xw_st_l {T L S : Nat} {n : Int32} {st pr hd vl : Nat → Int32} {q : Nat → Nat → Nat} {m : Nat → Nat → Int32} {post : Int32 → St2 → Prop} (hT : T ≤ 8) (hL : L ≤ 12) (hb : ∀ a b, q a b < 16)
    (K : wpX_resolve (fun u => match u with | (f1, f2, f3, f4, a1, a2, a3, a4, a5, a6) => post f4 (f1, f2, f3, f4, a1, a2, a3, a4, a5, a6)) (nI T, nI L, nI S, n, st, pr, hd, pd_xp (pd_p q), pd_x (pd_mk (pd_ma T L q) m), vl)) :
    ∀ d j, j + d = L → wX_settle_2 post (d + 1) (nI j) (nI T) (nI L) (nI S) n st pr hd (pd_xp (pd_p q)) (pd_x (pd_mk (pd_ma T j q) m)) vl := by
  intro d
  induction d with
  | zero =>
    intro j hj
    have e : j = L := by omega
    subst e
    exact br_t (nI_le (Nat.le_refl _) (by omega)) K
  | succ d ih =>
    intro j hj
    have i := ih (j + 1) (by omega)
    refine br_f (nI_ge (by omega) (by omega)) (xw_mark hT (pd_p_lt hb) (by omega) ?_)
    rw [pd_mk_mk (p3 := pd_ma T (j + 1) q) (fun a b => ?_)]
    · exact nm_r (nI_1 _) i
    · simp only [pd_ma, decide_eq_true_eq]
      simp only [pd_p]
      constructor
      · intro y
        by_cases w : a = j
        · exact Or.inl ⟨w, y.2.1, by omega⟩
        · exact Or.inr ⟨by omega, y.2⟩
      · intro y
        rcases y with y | y
        · exact ⟨by omega, y.2.1, by omega⟩
        · exact ⟨by omega, y.2⟩
/-! a resolution: the victims w 0 .. w (c - 1), one after another -/
def pe_at (T L : Nat) (q : Nat → Nat → Nat) (m : Nat → Nat → Int32) (w : Nat → Nat) : Nat → (Nat → Nat → Nat) × (Nat → Nat → Int32)
  | 0 => (q, m)
  | k + 1 => pd_end T L (w k) (pe_at T L q m w k).1 (pe_at T L q m w k).2
theorem pe_at_congr {T L : Nat} {q : Nat → Nat → Nat} {m : Nat → Nat → Int32} {w w' : Nat → Nat} : ∀ k, (∀ j, j < k → w' j = w j) → pe_at T L q m w' k = pe_at T L q m w k := by
  intro k
  induction k with
  | zero => intro _; rfl
  | succ k ih =>
    intro h
    show pd_end T L (w' k) (pe_at T L q m w' k).1 (pe_at T L q m w' k).2 = pd_end T L (w k) (pe_at T L q m w k).1 (pe_at T L q m w k).2
    rw [ih (fun j hj => h j (by omega)), h k (by omega)]
noncomputable def pe_low (T L : Nat) (pr : Nat → Int32) (q : Nat → Nat → Nat) (m : Nat → Nat → Int32) (w : Nat → Nat) (k : Nat) : Int32 := pd_low (pd_C T L (pe_at T L q m w k).1 (pe_at T L q m w k).2) pr T
def pe_run (T L : Nat) (pr : Nat → Int32) (q : Nat → Nat → Nat) (m : Nat → Nat → Int32) (w : Nat → Nat) (c : Nat) : Prop :=
  c ≤ T ∧ (∀ k, k < c → w k < T ∧ pe_low T L pr q m w k = nI (w k)) ∧ pe_low T L pr q m w c = -1
theorem xr_res {T L S : Nat} {pr : Nat → Int32} {q : Nat → Nat → Nat} {m : Nat → Nat → Int32} {w : Nat → Nat} {c : Nat} {post : St2 → Prop} (hT2 : 2 ≤ T) (hT : T ≤ 8) (hL : L ≤ 12) (hr : pe_run T L pr q m w c)
    (K : ∀ s' st' hd' vl' : Nat → Int32, pd_R 8 T L (pe_at T L q m w c).1 (pe_at T L q m w c).2 s' st' hd' → (∀ j, j < c → vl' j = nI (w j)) → post (nI T, nI L, nI S, nI c, st', pr, hd', pd_xp (pd_p (pe_at T L q m w c).1), pd_x ((pe_at T L q m w c).2), vl')) :
    ∀ (d k : Nat) (s st hd vl : Nat → Int32), k + d = T → k ≤ c → pd_R 8 T L (pe_at T L q m w k).1 (pe_at T L q m w k).2 s st hd → (∀ j, j < k → vl j = nI (w j)) →
      wX_resolve_7 post (d + 1) (nI k) (nI T) (nI L) (nI S) (nI k) st pr hd (pd_xp (pd_p (pe_at T L q m w k).1)) (pd_x ((pe_at T L q m w k).2)) vl := by
  obtain ⟨hcT, hw, hz⟩ := hr
  intro d
  induction d with
  | zero =>
    intro k s st hd vl hk hkc R hv
    have e : k = c := by omega
    subst e
    exact br_t (nI_le (by omega) (by omega)) (K s st hd vl R hv)
  | succ d ih =>
    intro k s st hd vl hk hkc R hv
    refine br_f (nI_ge (by omega) (by omega)) (xw_low hT2 hT hL R ?_)
    by_cases e : k = c
    · subst e
      exact br_t hz (K s st hd vl R hv)
    · obtain ⟨wT, we⟩ := hw k (by omega)
      have we' : pd_low (pd_C T L (pe_at T L q m w k).1 (pe_at T L q m w k).2) pr T = nI (w k) := we
      rw [we', nI_clamp (n := k) (by omega)]
      refine br_f (pd_m1 _ (by omega)) ⟨vp_in_nI (by omega) (by decide), nm_e (nm_r (nI_1 _) (xw_end hT hL wT (Or.inr rfl) R (fun st' hd' R' => nm_r (nI_1 _) ?_)))⟩
      exact ih (k + 1) _ st' hd' (upd vl k (nI (w k))) (by omega) (by omega) R' (fun j hj => by
        by_cases z : j = k
        · rw [z]; exact pk_us
        · rw [pk_un z]; exact hv j (by omega))
theorem xr_resolve {T L S : Nat} {n : Int32} {pr s st hd vl : Nat → Int32} {q : Nat → Nat → Nat} {m : Nat → Nat → Int32} {w : Nat → Nat} {c : Nat} {post : St2 → Prop} (hT2 : 2 ≤ T) (hT : T ≤ 8) (hL : L ≤ 12) (R : pd_R 8 T L q m s st hd) (hr : pe_run T L pr q m w c)
    (K : ∀ s' st' hd' vl' : Nat → Int32, pd_R 8 T L (pe_at T L q m w c).1 (pe_at T L q m w c).2 s' st' hd' → (∀ j, j < c → vl' j = nI (w j)) → post (nI T, nI L, nI S, nI c, st', pr, hd', pd_xp (pd_p (pe_at T L q m w c).1), pd_x ((pe_at T L q m w c).2), vl')) : wpX_resolve post (nI T, nI L, nI S, n, st, pr, hd, pd_xp (pd_p q), pd_x m, vl) :=
  ⟨T + 1, xr_res (q := q) (m := m) (w := w) hT2 hT hL hr K T 0 s st hd vl (by omega) (Nat.zero_le _) R (fun j hj => by omega)⟩
theorem xr_report {T L S : Nat} {n : Int32} {st pr hd vl : Nat → Int32} {q : Nat → Nat → Nat} {m : Nat → Nat → Int32} {post : Int32 → St2 → Prop} {x c : Nat} {w : Nat → Nat} {s : Nat → Int32} (hT2 : 2 ≤ T) (hT : T ≤ 8) (hL : L ≤ 12) (hS1 : 1 ≤ S) (hS : S ≤ 4) (hx : x < S) (R : pd_R 8 T L q m s st hd) (hr : pe_run T L pr q (pd_mk (pd_ms S x T L q) m) w c)
    (K : ∀ s' st' hd' vl' : Nat → Int32, pd_R 8 T L (pe_at T L q (pd_mk (pd_ms S x T L q) m) w c).1 (pe_at T L q (pd_mk (pd_ms S x T L q) m) w c).2 s' st' hd' → (∀ j, j < c → vl' j = nI (w j)) → post (nI c) (nI T, nI L, nI S, nI c, st', pr, hd', pd_xp (pd_p (pe_at T L q (pd_mk (pd_ms S x T L q) m) w c).1), pd_x ((pe_at T L q (pd_mk (pd_ms S x T L q) m) w c).2), vl')) : wpX_report post (nI T, nI L, nI S, n, st, pr, hd, pd_xp (pd_p q), pd_x m, vl) (nI x) := by
  have R1 : pd_R 8 T L q (pd_mk (pd_ms S x T L q) m) s st hd := pd_R_mk R (fun a b h => (of_decide_eq_true h).2.2.2)
  have i := xw_rp_l (n := n) (pr := pr) (vl := vl) (m := m) (st := st) (hd := hd) (post := post) hT hL hS1 hS hx R.1.2.2.2 (xr_resolve hT2 hT hL R1 hr (fun s' st' hd' vl' R' hv => K s' st' hd' vl' R' hv)) L 0 (by omega)
  rw [pd_ms_0] at i
  exact br_f (nI_pos (by omega)) (br_t (nI_lt hx (by omega)) ⟨L + 1, i⟩)
theorem xr_report_f {T L S : Nat} {n : Int32} {st pr hd vl : Nat → Int32} {p : Nat → Nat → Nat} {m : Nat → Nat → Int32} {post : Int32 → St2 → Prop} {x : Int32} (h : nI S ≤ x) (hS : S ≤ 4) (hp : post (-1) (nI T, nI L, nI S, n, st, pr, hd, pd_xp p, pd_x m, vl)) : wpX_report post (nI T, nI L, nI S, n, st, pr, hd, pd_xp p, pd_x m, vl) x := by
  have h0 : ¬ x < 0 := Int32.not_lt.mpr (Int32.le_trans (nI_pos' (by omega)) h)
  exact br_f h0 (br_f (Int32.not_lt.mpr h) hp)
theorem xr_settle {T L S : Nat} {n : Int32} {st pr hd vl : Nat → Int32} {q : Nat → Nat → Nat} {m : Nat → Nat → Int32} {post : Int32 → St2 → Prop} {c : Nat} {w : Nat → Nat} {s : Nat → Int32} (hT2 : 2 ≤ T) (hT : T ≤ 8) (hL : L ≤ 12) (R : pd_R 8 T L q m s st hd) (hr : pe_run T L pr q (pd_mk (pd_ma T L q) m) w c)
    (K : ∀ s' st' hd' vl' : Nat → Int32, pd_R 8 T L (pe_at T L q (pd_mk (pd_ma T L q) m) w c).1 (pe_at T L q (pd_mk (pd_ma T L q) m) w c).2 s' st' hd' → (∀ j, j < c → vl' j = nI (w j)) → post (nI c) (nI T, nI L, nI S, nI c, st', pr, hd', pd_xp (pd_p (pe_at T L q (pd_mk (pd_ma T L q) m) w c).1), pd_x ((pe_at T L q (pd_mk (pd_ma T L q) m) w c).2), vl')) : wpX_settle post (nI T, nI L, nI S, n, st, pr, hd, pd_xp (pd_p q), pd_x m, vl) := by
  have R1 : pd_R 8 T L q (pd_mk (pd_ma T L q) m) s st hd := pd_R_mk R (fun a b h => (of_decide_eq_true h).2.2)
  have i := xw_st_l (S := S) (n := n) (pr := pr) (vl := vl) (m := m) (st := st) (hd := hd) (post := post) hT hL R.1.2.2.2 (xr_resolve hT2 hT hL R1 hr (fun s' st' hd' vl' R' hv => K s' st' hd' vl' R' hv)) L 0 (by omega)
  rw [pd_ma_0] at i
  exact ⟨L + 1, i⟩
/-! the law's picks give such a run -/
def pe_pk (T L : Nat) (pr : Nat → Int32) (q : Nat → Nat → Nat) (m : Nat → Nat → Int32) (s : Nat → Int32) (w : Nat → Nat) (c : Nat) (K : Nat → Prop) : Prop :=
  (∀ k, k < c → w k < T ∧ pe_low T L pr q m w k = nI (w k)) ∧
  (∀ x, K x → ¬ pe_C (pd_E T L (pe_at T L q m w c).1 (pe_at T L q m w c).2) x) ∧
  (∀ a b, pd_E T L (pe_at T L q m w c).1 (pe_at T L q m w c).2 a b ↔ (¬ (∃ k, k < c ∧ w k = a) ∧ ¬ (∃ k, k < c ∧ w k = b) ∧ pd_E T L q m a b)) ∧
  (∀ k, k < c → K (w k)) ∧ pd_G T L (pe_at T L q m w c).1 (pe_at T L q m w c).2 s
theorem pe_E_irr {T L : Nat} {q : Nat → Nat → Nat} {m : Nat → Nat → Int32} (x : Nat) : ¬ pd_E T L q m x x := fun ⟨_, _, _, _, _, _, h⟩ => absurd h (Nat.lt_irrefl _)
theorem pe_pk_0 {T L : Nat} {pr : Nat → Int32} {q : Nat → Nat → Nat} {m : Nat → Nat → Int32} {s : Nat → Int32} {w : Nat → Nat} {K : Nat → Prop} (h : pd_G T L q m s) (hK : ∀ x, K x → T ≤ x) : pe_pk T L pr q m s w 0 K :=
  ⟨fun k hk => by omega, fun x hx c => by have := hK x hx; have := (pd_RC_live h c).2.2.2; omega, fun a b => ⟨fun z => ⟨fun ⟨k, hk, _⟩ => by omega, fun ⟨k, hk, _⟩ => by omega, z⟩, fun z => z.2.2⟩, fun k hk => by omega, h⟩
theorem pe_pk_D {T L : Nat} {pr : Nat → Int32} {q : Nat → Nat → Nat} {m : Nat → Nat → Int32} {s : Nat → Int32} {w : Nat → Nat} {c v : Nat} {K P : Nat → Prop} (h : pe_pk T L pr q m s w c K) (nv : ¬ K v) (hP : ∀ x, P x ↔ (¬ K x ∧ x ≠ v)) :
    pe_D (pd_E T L q m) P v ↔ pe_C (pd_E T L (pe_at T L q m w c).1 (pe_at T L q m w c).2) v :=
  pe_step (K := K) (V := fun x => ∃ k, k < c ∧ w k = x) pe_E_irr h.2.2.1 (fun x ⟨k, hk, e⟩ => by rw [← e]; exact h.2.2.2.1 k hk) h.2.1 nv (fun x px => ((hP x).mp px).1) (fun px => ((hP v).mp px).2 rfl)
    (fun x _ nk => by
      by_cases z : x = v
      · exact Or.inl z
      · exact Or.inr ((hP x).mpr ⟨nk, z⟩))
theorem pe_pk_no {T L : Nat} {pr : Nat → Int32} {q : Nat → Nat → Nat} {m : Nat → Nat → Int32} {s : Nat → Int32} {w : Nat → Nat} {c v : Nat} {K K' : Nat → Prop} (h : pe_pk T L pr q m s w c K) (hK : ∀ x, K' x → K x ∨ x = v) (hK2 : ∀ x, K x → K' x)
    (n : ¬ pe_C (pd_E T L (pe_at T L q m w c).1 (pe_at T L q m w c).2) v) : pe_pk T L pr q m s w c K' :=
  ⟨h.1, fun x hx => (hK x hx).elim (h.2.1 x) (fun e => by rw [e]; exact n), h.2.2.1, fun k hk => hK2 _ (h.2.2.2.1 k hk), h.2.2.2.2⟩
theorem pe_pk_yes {T L : Nat} {pr : Nat → Int32} {q : Nat → Nat → Nat} {m : Nat → Nat → Int32} {s : Nat → Int32} {w w' : Nat → Nat} {c v : Nat} {K K' : Nat → Prop} (hT : T ≤ 8) (h : pe_pk T L pr q m s w c K) (hv : v < T) (hK : ∀ x, K' x → K x ∨ x = v) (hK2 : ∀ x, K x → K' x) (hKv : K' v)
    (hw : ∀ k, k < c → w' k = w k) (hw' : w' c = v)
    (y : pe_C (pd_E T L (pe_at T L q m w c).1 (pe_at T L q m w c).2) v) (hl : ∀ x, x < T → ¬ K x → x ≠ v → s x = 1 → s v = 1 → pd_lt pr v x) : pe_pk T L pr q m s w' (c + 1) K' := by
  obtain ⟨h1, h2, h3, h4, h5⟩ := h
  have ec : pe_at T L q m w' c = pe_at T L q m w c := pe_at_congr c hw
  have e1 : pe_at T L q m w' (c + 1) = pd_end T L v (pe_at T L q m w c).1 (pe_at T L q m w c).2 := by
    show pd_end T L (w' c) (pe_at T L q m w' c).1 (pe_at T L q m w' c).2 = _
    rw [ec, hw']
  have hE := pe_end h5 hv
  have hlow : pd_low (pd_C T L (pe_at T L q m w c).1 (pe_at T L q m w c).2) pr T = nI v := by
    refine pe_low_eq hT hv y (fun x hx cx => ?_)
    by_cases z : x = v
    · exact Or.inl z
    · exact Or.inr (hl x hx (fun k => h2 x k cx) z (pd_RC_live h5 cx).1 (pd_RC_live h5 y).1)
  refine ⟨fun k hk => ?_, fun x hx cx => ?_, fun a b => ?_, fun k hk => ?_, ?_⟩
  · by_cases z : k = c
    · subst z
      refine ⟨by rw [hw']; exact hv, ?_⟩
      unfold pe_low
      rw [ec, hw']
      exact hlow
    · have := h1 k (by omega)
      unfold pe_low
      rw [pe_at_congr k (fun j hj => hw j (by omega)), hw k (by omega)]
      exact this
  · rw [e1] at cx
    rcases hK x hx with z | z
    · exact h2 x z (pe_mono (fun a b w _ => ⟨((hE a b).mp w).2.2, trivial⟩) cx)
    · rw [z] at cx
      exact cx (fun _ => False) ⟨fun x hx _ => ((hE v x).mp hx).1 rfl, fun _ _ w _ _ => w⟩
  · rw [e1, hE a b, h3 a b]
    constructor
    · intro ⟨na, nb, va, vb, e⟩
      refine ⟨fun ⟨k, hk, ek⟩ => ?_, fun ⟨k, hk, ek⟩ => ?_, e⟩
      · by_cases z : k = c
        · rw [z, hw'] at ek; exact na ek.symm
        · rw [hw k (by omega)] at ek; exact va ⟨k, by omega, ek⟩
      · by_cases z : k = c
        · rw [z, hw'] at ek; exact nb ek.symm
        · rw [hw k (by omega)] at ek; exact vb ⟨k, by omega, ek⟩
    · intro ⟨va, vb, e⟩
      exact ⟨fun z => va ⟨c, by omega, by rw [hw', z]⟩, fun z => vb ⟨c, by omega, by rw [hw', z]⟩, fun ⟨k, hk, ek⟩ => va ⟨k, by omega, by rw [hw k hk]; exact ek⟩, fun ⟨k, hk, ek⟩ => vb ⟨k, by omega, by rw [hw k hk]; exact ek⟩, e⟩
  · by_cases z : k = c
    · rw [z, hw']; exact hKv
    · rw [hw k (by omega)]; exact hK2 _ (h4 k (by omega))
  · rw [e1]
    exact (pe_it (c := pd_c2) rfl (pe_it (c := pd_c1) rfl h5 hv L (Nat.le_refl L)).1 hv L (Nat.le_refl L)).1
theorem pe_pk_end {T L : Nat} {pr : Nat → Int32} {q : Nat → Nat → Nat} {m : Nat → Nat → Int32} {s : Nat → Int32} {w : Nat → Nat} {c : Nat} {K : Nat → Prop} (hT : T ≤ 8) (h : pe_pk T L pr q m s w c K) (hc : c ≤ T) (hK : ∀ x, x < T → K x) : pe_run T L pr q m w c := by
  refine ⟨hc, h.1, ?_⟩
  rcases pd_low_is (pd_C T L (pe_at T L q m w c).1 (pe_at T L q m w c).2) pr T hT with y | ⟨a, ha, _, ca⟩
  · exact y.1
  · exact absurd ca (h.2.1 a (hK a ha))
theorem pe_run_acy {T L : Nat} {pr : Nat → Int32} {q : Nat → Nat → Nat} {m : Nat → Nat → Int32} {w : Nat → Nat} {c : Nat} (hT : T ≤ 8) (h : pe_run T L pr q m w c) (v : Nat) (hv : v < T) : ¬ pd_C T L (pe_at T L q m w c).1 (pe_at T L q m w c).2 v := by
  rcases pd_low_is (pd_C T L (pe_at T L q m w c).1 (pe_at T L q m w c).2) pr T hT with y | ⟨a, ha, e, _⟩
  · exact y.2 v hv
  · exact absurd (e.symm.trans h.2.2) (pd_m1 a (by omega))
/-! after settle every entry is marked -/
def pe_all1 (T L : Nat) (q : Nat → Nat → Nat) (m : Nat → Nat → Int32) : Prop := ∀ l t, l < L → t < T → 2 ≤ q l t → m l t ≠ 0
theorem pe_all_rem {T L : Nat} {q : Nat → Nat → Nat} {m : Nat → Nat → Int32} {l t : Nat} (h : pe_all1 T L q m) : pe_all1 T L (pd_rem T q l t) (pd_mrem T q m l t) := by
  intro a b ha hb e
  by_cases z : a = l
  · subst z
    by_cases y : b = t
    · rw [y, pd_rem_t] at e; omega
    · by_cases g : q a t < q a b
      · rw [pd_rem_gt _ _ _ _ hb g] at e
        rw [show pd_mrem T q m a t a b = m a b from if_neg (fun c => c.2.elim y (fun w => by omega))]
        exact h a b ha hb (by omega)
      · rw [pd_rem_le _ _ _ _ y (by omega)] at e
        rw [show pd_mrem T q m a t a b = m a b from if_neg (fun c => c.2.elim y (fun w => g w.2.1))]
        exact h a b ha hb e
  · rw [pd_rem_ne _ _ _ _ _ z] at e
    rw [show pd_mrem T q m l t a b = m a b from if_neg (fun c => z c.1)]
    exact h a b ha hb e
theorem pe_all_it {c : Nat → Bool} {T L : Nat} {q : Nat → Nat → Nat} {m : Nat → Nat → Int32} {t : Nat} (h : pe_all1 T L q m) : ∀ j, pe_all1 T L (pd_it c T t q m j).1 (pd_it c T t q m j).2 := by
  intro j
  induction j with
  | zero => exact h
  | succ j ih =>
    by_cases z : c ((pd_it c T t q m j).1 j t) = true
    · rw [pd_it_t z]; exact pe_all_rem ih
    · rw [pd_it_f z]; exact ih
theorem pe_all_at {T L : Nat} {q : Nat → Nat → Nat} {m : Nat → Nat → Int32} {w : Nat → Nat} (h : pe_all1 T L q m) : ∀ k, pe_all1 T L (pe_at T L q m w k).1 (pe_at T L q m w k).2 := by
  intro k
  induction k with
  | zero => exact h
  | succ k ih => exact pe_all_it (pe_all_it ih L) L
theorem pe_all_E {T L : Nat} {q : Nat → Nat → Nat} {m : Nat → Nat → Int32} (h : pe_all1 T L q m) {a b : Nat} (e : pd_E1 T L q a b) : pd_E T L q m a b := by
  obtain ⟨ha, hb, l, hl, e1, e2⟩ := e
  exact ⟨ha, hb, l, hl, h l a hl ha (by omega), e1, e2⟩
end
section
/-! the law's checks behind a call -/
def pe_kb (g : Int64) (Q : Nat → Nat → Prop) : Prop := ∀ a b, a < 8 → b < 8 → (pl g (8 * a + b) = true ↔ Q a b)
theorem pe_kb_0 {Q : Nat → Nat → Prop} (h : ∀ a b, ¬ Q a b) : pe_kb 0 Q := fun a b _ _ => by
  rw [pl_0]
  exact ⟨fun z => (nomatch z), fun z => absurd z (h a b)⟩
theorem pe_kb_s {g : Int64} {Q Q' : Nat → Nat → Prop} {w x : Nat} (h : pe_kb g Q) (hw : w < 8) (hx : x < 8) (hQ : ∀ a b, a < 8 → b < 8 → (Q' a b ↔ (Q a b ∨ (a = w ∧ b = x)))) : pe_kb (g ||| ((1 : Int64) <<< (((8 * nI w) + nI x).toInt64 &&& 63))) Q' := fun a b ha hb => by
  rw [pl_8, nI_add, pl_or, pl_1 (by omega), Bool.or_eq_true, h a b ha hb, hQ a b ha hb, decide_eq_true_eq]
  constructor
  · intro z
    rcases z with z | z
    · exact Or.inl z
    · exact Or.inr ⟨by omega, by omega⟩
  · intro z
    rcases z with z | z
    · exact Or.inl z
    · exact Or.inr (by omega)
theorem pe_kb_c {g : Int64} {Q Q' : Nat → Nat → Prop} (h : pe_kb g Q) (hQ : ∀ a b, a < 8 → b < 8 → (Q' a b ↔ Q a b)) : pe_kb g Q' := fun a b ha hb => (h a b ha hb).trans (hQ a b ha hb).symm
/-- the edges of rows below v and, of row v, to those below u -/
def pe_up (v u : Nat) (E : Nat → Nat → Prop) (a b : Nat) : Prop := (a < v ∨ (a = v ∧ b < u)) ∧ E a b
theorem pe_up_s {v u : Nat} {E : Nat → Nat → Prop} (e : E v u) (a b : Nat) : pe_up v (u + 1) E a b ↔ (pe_up v u E a b ∨ (a = v ∧ b = u)) := by
  unfold pe_up
  constructor
  · intro z
    by_cases y : a = v ∧ b = u
    · exact Or.inr y
    · exact Or.inl ⟨by omega, z.2⟩
  · intro z
    rcases z with z | z
    · exact ⟨by omega, z.2⟩
    · rw [z.1, z.2]
      exact ⟨by omega, e⟩
theorem pe_up_n {v u : Nat} {E : Nat → Nat → Prop} (e : ¬ E v u) (a b : Nat) : pe_up v (u + 1) E a b ↔ pe_up v u E a b := by
  unfold pe_up
  constructor
  · intro z
    have : ¬ (a = v ∧ b = u) := fun y => e (by have := z.2; rw [y.1, y.2] at this; exact this)
    exact ⟨by omega, z.2⟩
  · intro z
    exact ⟨by omega, z.2⟩
theorem pe_up_r {v T : Nat} {E : Nat → Nat → Prop} (hE : ∀ a b, E a b → b < T) (a b : Nat) : pe_up (v + 1) 0 E a b ↔ pe_up v T E a b := by
  unfold pe_up
  constructor
  · intro z
    have := hE a b z.2
    exact ⟨by omega, z.2⟩
  · intro z
    exact ⟨by omega, z.2⟩
theorem ll_990 {T L S : Nat} {n : Int32} {st pr hd vl : Nat → Int32} {q : Nat → Nat → Nat} {m : Nat → Nat → Int32} {N : Nat} {xs : Nat → Int32} {kc ks x v : Nat} {post : Int32 → Prop} {J94 : Int64 → Int32 → Int32 → Int32 → Int32 → Int32 → Int32 → (Nat → Int32) → (Nat → Int32) → (Nat → Int32) → (Nat → Int32) → (Nat → Int32) → (Nat → Int32) → Prop} {J953 : Int64 → Int64 → Int32 → Prop} {x2 x3 x5 x6 x9 x10 x11 x14 x15 : Int32} {x7 : Int64} {s : Nat → Int32}
    (hT : T ≤ 8) (hL : L ≤ 12) (R : pd_R x T L q m s st hd) (hv : v < T)
    (hJ : ∀ kn al : Int64, pe_kb kn (pe_up (v + 1) 0 (pd_E T L q m)) → pe_kb al (pe_up (v + 1) 0 (pd_E1 T L q)) → J953 kn al (nI (v + 1))) :
    ∀ d u (kn al : Int64), u + d = T → pe_kb kn (pe_up v u (pd_E T L q m)) → pe_kb al (pe_up v u (pd_E1 T L q)) →
      wL_law_990 post N xs J94 J953 (nI T) x2 x3 x5 x6 x7 x9 x10 x11 x14 x15 (nI v) kc ks (nI T) (nI L) (nI S) n st pr hd (pd_xp (pd_p q)) (pd_x m) vl (d + 1) kn al (nI u) := by
  intro d
  induction d with
  | zero =>
    intro u kn al hu hk ha
    have e : u = T := by omega
    subst e
    exact br_t (nI_le (Nat.le_refl _) (by omega)) (nm_r (nI_1 _) (hJ kn al (pe_kb_c hk (fun a b _ _ => pe_up_r (pd_E_lt u L q m) a b)) (pe_kb_c ha (fun a b _ _ => pe_up_r (fun _ _ z => z.2.1) a b))))
  | succ d ih =>
    intro u kn al hu hk ha
    have huT : u < T := by omega
    refine br_f (nI_ge (by omega) (by omega)) ?_
    by_cases e : u = v
    · refine br_t (by rw [e]) (nm_r (nI_1 _) (ih (u + 1) kn al (by omega) (pe_kb_c hk (fun a b _ _ => pe_up_n (fun z => ?_) a b)) (pe_kb_c ha (fun a b _ _ => pe_up_n (fun z => ?_) a b))))
      · rw [e] at z; exact pe_E_irr v z
      · obtain ⟨_, _, _, _, _, z⟩ := z
        rw [e] at z; omega
    · refine br_f (fun z => e ((nI_eq (by omega) (by omega)).mp z)) (xr_waits hT hL R hv huT (fun z => e z.symm) (fun z => br_t rfl (nm_e (br_f (by decide) (nm_e (nm_r (nI_1 _) (ih (u + 1) _ _ (by omega) ?_ ?_)))))) (fun z z1 => br_f (by decide) (br_f (by decide) (nm_e (nm_r (nI_1 _) (ih (u + 1) _ _ (by omega) ?_ ?_))))) (fun z z1 => br_f (by decide) (br_t rfl (nm_r (nI_1 _) (ih (u + 1) _ _ (by omega) ?_ ?_)))))
      · exact pe_kb_s hk (by omega) (by omega) (fun a b _ _ => pe_up_s z a b)
      · obtain ⟨z1, z2, l, z3, z4, z5, z6⟩ := z
        exact pe_kb_s ha (by omega) (by omega) (fun a b _ _ => pe_up_s ⟨z1, z2, l, z3, z5, z6⟩ a b)
      · exact pe_kb_c hk (fun a b _ _ => pe_up_n z a b)
      · exact pe_kb_s ha (by omega) (by omega) (fun a b _ _ => pe_up_s z1 a b)
      · exact pe_kb_c hk (fun a b _ _ => pe_up_n z a b)
      · exact pe_kb_c ha (fun a b _ _ => pe_up_n z1 a b)
theorem pe_kb_acy {T L : Nat} {g : Int64} {q : Nat → Nat → Nat} {m : Nat → Nat → Int32} {s : Nat → Int32} {Q : Nat → Nat → Prop} (h : pd_G T L q m s) (hk : pe_kb g Q) (hQ : ∀ a b, Q a b → pd_E T L q m a b) (ac : ∀ v, v < T → ¬ pd_C T L q m v) : ∀ v, v < 8 → ¬ pe_C (pe_g g) v := fun v _ c => by
  have c' : pd_C T L q m v := pe_mono (fun a b z _ => ⟨hQ a b ((hk a b z.1 z.2.1).mp z.2.2), trivial⟩) c
  exact ac v (pd_RC_live h c').2.2.2 c'
theorem ll_953 {T L S : Nat} {n : Int32} {st pr hd vl : Nat → Int32} {q : Nat → Nat → Nat} {m : Nat → Nat → Int32} {N : Nat} {xs : Nat → Int32} {kc ks x : Nat} {post : Int32 → Prop} {J94 : Int64 → Int32 → Int32 → Int32 → Int32 → Int32 → Int32 → (Nat → Int32) → (Nat → Int32) → (Nat → Int32) → (Nat → Int32) → (Nat → Int32) → (Nat → Int32) → Prop} {x2 x3 x5 x6 x9 x10 x11 x14 x15 : Int32} {x7 : Int64} {s : Nat → Int32}
    (hT : T ≤ 8) (hL : L ≤ 12) (R : pd_R x T L q m s st hd) (ac : ∀ v, v < T → ¬ pd_C T L q m v) (hA : x11 = 6 → pe_all1 T L q m) (hV : x14 = 0 → ∀ v, v < T → st v = 3 → bt x15 v = true)
    (hJ : J94 x7 x9 (x10 + 1) (nI T) (nI L) (nI S) n st pr hd (pd_xp (pd_p q)) (pd_x m) vl) :
    ∀ d v (kn al : Int64), v + d = T → pe_kb kn (pe_up v 0 (pd_E T L q m)) → pe_kb al (pe_up v 0 (pd_E1 T L q)) →
      wL_law_953 post N xs J94 (nI T) x2 x3 x5 x6 x7 x9 x10 x11 x14 x15 kc ks (nI T) (nI L) (nI S) n st pr hd (pd_xp (pd_p q)) (pd_x m) vl (d + 1) kn al (nI v) := by
  intro d
  induction d with
  | zero =>
    intro v kn al hv hk ha
    refine br_t (nI_le (by omega) (by omega)) (lc_cyclic (pe_kb_acy R.1 hk (fun a b z => z.2) ac) (br_t rfl ?_))
    by_cases e : x11 = 6
    · exact br_t e (lc_cyclic (pe_kb_acy R.1 ha (fun a b z => pe_all_E (hA e) z.2) ac) (br_t rfl (nm_e hJ)))
    · exact br_f e (nm_e hJ)
  | succ d ih =>
    intro v kn al hv hk ha
    have hvT : v < T := by omega
    have go := ll_990 (N := N) (xs := xs) (kc := kc) (ks := ks) (x2 := x2) (x3 := x3) (x5 := x5) (x6 := x6) (x7 := x7) (x9 := x9) (x10 := x10) (x11 := x11) (x14 := x14) (x15 := x15) (post := post) (J94 := J94) (S := S) (n := n) (pr := pr) (vl := vl) hT hL R hvT (fun kn al hk ha => ih (v + 1) kn al (by omega) hk ha) T 0 kn al (by omega) hk ha
    refine br_f (nI_ge (by omega) (by omega)) ?_
    by_cases e : x14 = 0
    · refine br_t e (xr_state hT hvT ?_)
      by_cases z : st v = 3
      · refine br_t z (br_f (fun y => ?_) ⟨T + 1, go⟩)
        rw [pl_t0 _ (by omega)] at y
        rw [hV e v hvT z] at y
        exact nomatch y
      · exact br_f z ⟨T + 1, go⟩
    · exact br_f e ⟨T + 1, go⟩
theorem ll_907 {T L S : Nat} {st pr hd vl : Nat → Int32} {q : Nat → Nat → Nat} {m : Nat → Nat → Int32} {N : Nat} {xs : Nat → Int32} {kc ks c : Nat} {post : Int32 → Prop} {J94 : Int64 → Int32 → Int32 → Int32 → Int32 → Int32 → Int32 → (Nat → Int32) → (Nat → Int32) → (Nat → Int32) → (Nat → Int32) → (Nat → Int32) → (Nat → Int32) → Prop} {x2 x3 x5 x6 x10 x11 x14 x15 : Int32} {x7 : Int64} {w : Nat → Nat}
    (hc : c ≤ 8) (hw : pl_list x7 w c) (hv : ∀ k, k < c → vl k = nI (w k))
    (K : ∃ f, wL_law_953 post N xs J94 (nI T) x2 x3 x5 x6 x7 (nI c) x10 x11 x14 x15 kc ks (nI T) (nI L) (nI S) (nI c) st pr hd (pd_xp (pd_p q)) (pd_x m) vl f 0 0 0) :
    ∀ d k, k + d = c → wL_law_907 post N xs J94 (nI T) x2 x3 x5 x6 x7 (nI c) x10 x11 x14 x15 kc ks (nI T) (nI L) (nI S) (nI c) st pr hd (pd_xp (pd_p q)) (pd_x m) vl (d + 1) (nI k) := by
  intro d
  induction d with
  | zero =>
    intro k hk
    exact br_t (nI_le (by omega) (by omega)) K
  | succ d ih =>
    intro k hk
    refine br_f (nI_ge (by omega) (by omega)) (xr_victim hc (by omega) (br_t ?_ (nm_r (nI_1 _) (ih (k + 1) (by omega)))))
    rw [pl_nib hw hc (by omega), hv k (by omega)]
theorem ll_892 {T L S : Nat} {st pr hd vl : Nat → Int32} {q : Nat → Nat → Nat} {m : Nat → Nat → Int32} {N : Nat} {xs : Nat → Int32} {kc ks c : Nat} {post : Int32 → Prop} {J94 : Int64 → Int32 → Int32 → Int32 → Int32 → Int32 → Int32 → (Nat → Int32) → (Nat → Int32) → (Nat → Int32) → (Nat → Int32) → (Nat → Int32) → (Nat → Int32) → Prop} {x2 x3 x5 x6 x10 x11 x14 x15 : Int32} {x7 : Int64} {w : Nat → Nat} {s : Nat → Int32}
    (hT : T ≤ 8) (hL : L ≤ 12) (R : pd_R 8 T L q m s st hd) (ac : ∀ v, v < T → ¬ pd_C T L q m v) (hA : x11 = 6 → pe_all1 T L q m) (hV : x14 = 0 → ∀ v, v < T → st v = 3 → bt x15 v = true)
    (hc : c ≤ 8) (hw : pl_list x7 w c) (hv : ∀ k, k < c → vl k = nI (w k)) (hJ : J94 x7 (nI c) (x10 + 1) (nI T) (nI L) (nI S) (nI c) st pr hd (pd_xp (pd_p q)) (pd_x m) vl) :
    wL_law_892 post N xs J94 (nI T) x2 x3 x5 x6 x7 (nI c) x10 x11 x14 x15 kc ks (nI T) (nI L) (nI S) (nI c) st pr hd (pd_xp (pd_p q)) (pd_x m) vl :=
  br_t rfl ⟨c + 1, ll_907 hc hw hv ⟨T + 1, ll_953 hT hL R ac hA hV hJ T 0 0 0 (by omega) (pe_kb_0 (fun a b z => by unfold pe_up at z; omega)) (pe_kb_0 (fun a b z => by unfold pe_up at z; omega))⟩ c 0 (by omega)⟩
end
section
/-! the law's graph of the waits that this call makes known -/
def pe_gq (T L : Nat) (q : Nat → Nat → Nat) (m' : Nat → Nat → Int32) (l i a b : Nat) : Prop :=
  ∃ k, k < L ∧ (k < l ∨ (k = l ∧ q k a < i + 2)) ∧ a < T ∧ b < T ∧ m' k a ≠ 0 ∧ q k b ≠ 0 ∧ q k b < q k a
theorem pe_gq_n {T L : Nat} {q : Nat → Nat → Nat} {m' : Nat → Nat → Int32} {l i : Nat} (h : ∀ a, a < T → q l a = i + 2 → m' l a = 0) (a b : Nat) : pe_gq T L q m' l (i + 1) a b ↔ pe_gq T L q m' l i a b := by
  constructor
  · intro ⟨k, hk, c, ha, hb, z1, z2, z3⟩
    refine ⟨k, hk, ?_, ha, hb, z1, z2, z3⟩
    rcases c with c | c
    · exact Or.inl c
    · refine Or.inr ⟨c.1, ?_⟩
      have : q k a ≠ i + 2 := fun y => z1 (by rw [c.1] at y; rw [c.1]; exact h a ha y)
      omega
  · intro ⟨k, hk, c, z⟩
    exact ⟨k, hk, by omega, z⟩
theorem pe_gq_s {T L : Nat} {q : Nat → Nat → Nat} {m' : Nat → Nat → Int32} {l i w : Nat} (hQ : pd_Q T (q l)) (hl : l < L) (hw : w < T) (ew : q l w = i + 2) (hm : m' l w ≠ 0) (a b : Nat) :
    pe_gq T L q m' l (i + 1) a b ↔ (pe_gq T L q m' l i a b ∨ (a = w ∧ b < T ∧ q l b ≠ 0 ∧ q l b < i + 2)) := by
  constructor
  · intro ⟨k, hk, c, ha, hb, z1, z2, z3⟩
    by_cases y : k = l ∧ q k a = i + 2
    · have e : a = w := hQ.2.2 a w ha hw (by rw [← y.1, y.2, y.1, ew]) (by rw [← y.1, y.2]; omega)
      rw [y.1] at z2 z3
      rw [y.1] at y
      exact Or.inr ⟨e, hb, z2, by omega⟩
    · exact Or.inl ⟨k, hk, by omega, ha, hb, z1, z2, z3⟩
  · intro z
    rcases z with ⟨k, hk, c, z⟩ | ⟨e, hb, z2, z3⟩
    · exact ⟨k, hk, by omega, z⟩
    · rw [e]
      exact ⟨l, hl, Or.inr ⟨rfl, by omega⟩, hw, hb, hm, z2, by omega⟩
theorem pe_gq_r {T L : Nat} {q : Nat → Nat → Nat} {m' : Nat → Nat → Int32} {l i : Nat} (hm : ∀ k t, k < L → t < T → m' k t ≠ 0 → 2 ≤ q k t) (hn : ∀ a, a < T → q l a < i + 2) (a b : Nat) : pe_gq T L q m' (l + 1) 0 a b ↔ pe_gq T L q m' l i a b := by
  constructor
  · intro ⟨k, hk, c, ha, hb, z1, z2, z3⟩
    refine ⟨k, hk, ?_, ha, hb, z1, z2, z3⟩
    have h2 := hm k a hk ha z1
    by_cases e : k = l
    · refine Or.inr ⟨e, ?_⟩
      rw [e]
      exact hn a ha
    · omega
  · intro ⟨k, hk, c, z⟩
    exact ⟨k, hk, by omega, z⟩
theorem ll_610 {T L S : Nat} {n : Int32} {st pr hd vl : Nat → Int32} {q : Nat → Nat → Nat} {m : Nat → Nat → Int32} {N : Nat} {xs : Nat → Int32} {kc ks : Nat} {post : Int32 → Prop} {J94 : Int64 → Int32 → Int32 → Int32 → Int32 → Int32 → Int32 → (Nat → Int32) → (Nat → Int32) → (Nat → Int32) → (Nat → Int32) → (Nat → Int32) → (Nat → Int32) → Prop} {x5 x6 x10 x11 x12 x13 x14 x15 : Int32} {J511 J529 : Int64 → Int32 → Prop} {x19 : Int32} {l i w : Nat} {Q : Nat → Nat → Prop} (hT : T ≤ 8) (hL : L ≤ 12) (hb : ∀ a b, q a b < 16) (hQ : pd_Q T (q l)) (hl : l < L) (hi : i < T) (hw : w < T) (ew : q l w = i + 2)
    (hJ : ∀ g : Int64, pe_kb g (fun a b => Q a b ∨ (a = w ∧ b < T ∧ q l b ≠ 0 ∧ q l b < i + 2)) → J529 g (nI (i + 1))) :
    ∀ d k (g : Int64), k + d = i → pe_kb g (fun a b => Q a b ∨ (a = w ∧ b < T ∧ q l b ≠ 0 ∧ q l b < k + 2)) →
      wL_law_610 post N xs J94 J511 J529 (nI T) (nI L) (nI S) x5 x6 x10 x11 x12 x13 x14 x15 (nI l) x19 (nI i) (nI w) kc ks (nI T) (nI L) (nI S) n st pr hd (pd_xp (pd_p q)) (pd_x m) vl (d + 1) g (nI k) := by
  intro d
  induction d with
  | zero =>
    intro k g hk h
    have e : k = i := by omega
    subst e
    exact br_t (nI_le (Nat.le_refl _) (by omega)) (nm_r (nI_1 _) (hJ g h))
  | succ d ih =>
    intro k g hk h
    refine br_f (nI_ge (by omega) (by omega)) (xr_waiter hT hL hb hl (by omega) (fun t ht e => nm_e (nm_r (nI_1 _) (ih (k + 1) _ (by omega) (pe_kb_s h (by omega) (by omega) (fun a b _ _ => ?_))))) (fun hn => ?_))
    · constructor
      · intro z
        rcases z with z | ⟨z1, z2, z3, z4⟩
        · exact Or.inl (Or.inl z)
        · by_cases y : q l b = k + 2
          · exact Or.inr ⟨z1, hQ.2.2 b t z2 ht (by omega) (by omega)⟩
          · exact Or.inl (Or.inr ⟨z1, z2, z3, by omega⟩)
      · intro z
        rcases z with (z | ⟨z1, z2, z3, z4⟩) | ⟨z1, z2⟩
        · exact Or.inl z
        · exact Or.inr ⟨z1, z2, z3, by omega⟩
        · rw [z2]
          exact Or.inr ⟨z1, ht, by omega, by omega⟩
    · have h1 := hQ.1 w hw
      obtain ⟨t, ht, et⟩ := hQ.2.1 (k + 2) (by omega) (by omega)
      exact absurd et (hn t ht)
theorem ll_586 {T L S : Nat} {n : Int32} {st pr hd vl : Nat → Int32} {q : Nat → Nat → Nat} {m : Nat → Nat → Int32} {N : Nat} {xs : Nat → Int32} {kc ks : Nat} {post : Int32 → Prop} {J94 : Int64 → Int32 → Int32 → Int32 → Int32 → Int32 → Int32 → (Nat → Int32) → (Nat → Int32) → (Nat → Int32) → (Nat → Int32) → (Nat → Int32) → (Nat → Int32) → Prop} {x5 x6 x10 x11 x12 x13 x14 x15 : Int32} {J511 J529 : Int64 → Int32 → Prop} {l i w : Nat} {g : Int64} {Q : Nat → Nat → Prop} (hT : T ≤ 8) (hL : L ≤ 12) (hb : ∀ a b, q a b < 16) (hQ : pd_Q T (q l)) (hH : pd_H T q hd l) (hl : l < L) (hi : i < T) (hw : w < T) (ew : q l w = i + 2)
    (hJ : ∀ g : Int64, pe_kb g (fun a b => Q a b ∨ (a = w ∧ b < T ∧ q l b ≠ 0 ∧ q l b < i + 2)) → J529 g (nI (i + 1))) (h : pe_kb g Q) :
    wL_law_586 post N xs J94 J511 J529 (nI T) (nI L) (nI S) x5 x6 x10 x11 x12 x13 x14 x15 g (nI l) (hd l) (nI i) (nI w) kc ks (nI T) (nI L) (nI S) n st pr hd (pd_xp (pd_p q)) (pd_x m) vl := by
  have h1 := hQ.1 w hw
  obtain ⟨t, ht, et⟩ := hQ.2.1 1 (by omega) (by omega)
  rw [hH.1 t ht et]
  refine br_f (pd_m1 t (by omega)) (nm_e ⟨i + 1, ll_610 (Q := Q) hT hL hb hQ hl hi hw ew hJ i 0 _ (by omega) (pe_kb_s h (by omega) (by omega) (fun a b _ _ => ?_))⟩)
  constructor
  · intro z
    rcases z with z | ⟨z1, z2, z3, z4⟩
    · exact Or.inl z
    · exact Or.inr ⟨z1, hQ.2.2 b t z2 ht (by omega) (by omega)⟩
  · intro z
    rcases z with z | ⟨z1, z2⟩
    · exact Or.inl z
    · rw [z2]
      exact Or.inr ⟨z1, ht, by omega, by omega⟩
/-- which entries this call makes known -/
def pe_cn (S : Nat) (m : Nat → Nat → Int32) (x11 x13 : Int32) (l t : Nat) : Prop := x11 = 6 ∨ nI (l % S) = x13 ∨ m l t ≠ 0
theorem ll_529 {T L S : Nat} {n : Int32} {st pr hd vl : Nat → Int32} {q : Nat → Nat → Nat} {m : Nat → Nat → Int32} {N : Nat} {xs : Nat → Int32} {kc ks : Nat} {post : Int32 → Prop} {J94 : Int64 → Int32 → Int32 → Int32 → Int32 → Int32 → Int32 → (Nat → Int32) → (Nat → Int32) → (Nat → Int32) → (Nat → Int32) → (Nat → Int32) → (Nat → Int32) → Prop} {x5 x6 x10 x11 x12 x13 x14 x15 : Int32} {J511 : Int64 → Int32 → Prop} {l x : Nat} {m' : Nat → Nat → Int32} {s : Nat → Int32} (hT : T ≤ 8) (hL : L ≤ 12) (hS1 : 1 ≤ S) (hS : S ≤ 4) (R : pd_R x T L q m s st hd) (hl : l < L)
    (hm : ∀ k t, k < L → t < T → (m' k t ≠ 0 ↔ (2 ≤ q k t ∧ pe_cn S m x11 x13 k t)))
    (hJ : ∀ g : Int64, pe_kb g (pe_gq T L q m' (l + 1) 0) → J511 g (nI (l + 1))) :
    ∀ d i (g : Int64), i + d = T → pe_kb g (pe_gq T L q m' l i) →
      wL_law_529 post N xs J94 J511 (nI T) (nI L) (nI S) x5 x6 x10 x11 x12 x13 x14 x15 (nI l) (hd l) kc ks (nI T) (nI L) (nI S) n st pr hd (pd_xp (pd_p q)) (pd_x m) vl (d + 1) g (nI i) := by
  have hb := R.1.2.2.2
  have hQ := R.1.1 l hl
  have hm2 : ∀ k t, k < L → t < T → m' k t ≠ 0 → 2 ≤ q k t := fun k t hk ht z => ((hm k t hk ht).mp z).1
  intro d
  induction d with
  | zero =>
    intro i g hi h
    refine br_t (nI_le (by omega) (by omega)) (nm_r (nI_1 _) (hJ g (pe_kb_c h (fun a b _ _ => pe_gq_r hm2 (fun a ha => ?_) a b))))
    have h1 := hQ.1 a ha
    have h2 := pd_n_le T (q l)
    omega
  | succ d ih =>
    intro i g hi h
    refine br_f (nI_ge (by omega) (by omega)) (xr_waiter hT hL hb hl (by omega) (fun w hw ew => br_f (pd_m1 w (by omega)) ?_) (fun hn => br_t rfl (nm_r (nI_1 _) (hJ g (pe_kb_c h (fun a b _ _ => pe_gq_r hm2 (fun a ha => ?_) a b))))))
    · have inj : ∀ a, a < T → q l a = i + 2 → a = w := fun a ha e => hQ.2.2 a w ha hw (by omega) (by omega)
      have yes : pe_cn S m x11 x13 l w → wL_law_586 post N xs J94 J511 (wL_law_529 post N xs J94 J511 (nI T) (nI L) (nI S) x5 x6 x10 x11 x12 x13 x14 x15 (nI l) (hd l) kc ks (nI T) (nI L) (nI S) n st pr hd (pd_xp (pd_p q)) (pd_x m) vl (d + 1)) (nI T) (nI L) (nI S) x5 x6 x10 x11 x12 x13 x14 x15 g (nI l) (hd l) (nI i) (nI w) kc ks (nI T) (nI L) (nI S) n st pr hd (pd_xp (pd_p q)) (pd_x m) vl := fun c =>
        ll_586 hT hL hb hQ (R.2.1 l hl) hl (by omega) hw ew (fun g' h' => ih (i + 1) g' (by omega) (pe_kb_c h' (fun a b _ _ => pe_gq_s hQ hl hw ew ((hm l w hl hw).mpr ⟨by omega, c⟩) a b))) h
      by_cases e6 : x11 = 6
      · exact br_t e6 (yes (Or.inl e6))
      · refine br_f e6 ⟨nI_ne0 (by omega) (by omega), ?_⟩
        rw [pk_rem (by omega) (by omega) (by omega)]
        by_cases e5 : nI (l % S) = x13
        · exact br_t e5 (yes (Or.inr (Or.inl e5)))
        · refine br_f e5 (xr_reported hT hL hw hl (fun z => br_f (by decide) (yes (Or.inr (Or.inr z)))) (fun z => br_t rfl (nm_r (nI_1 _) (ih (i + 1) g (by omega) (pe_kb_c h (fun a b _ _ => pe_gq_n (fun a ha ea => ?_) a b))))))
          rw [inj a ha ea]
          exact Classical.byContradiction (fun y => ((hm l w hl hw).mp y).2.elim e6 (fun c => c.elim e5 (fun c => c z)))
    · have h1 := hQ.1 a ha
      apply Nat.lt_of_not_le
      intro y
      obtain ⟨t, ht, et⟩ := hQ.2.1 (i + 2) (by omega) (by omega)
      exact hn t ht et
theorem ll_511 {T L S : Nat} {n : Int32} {st pr hd vl : Nat → Int32} {q : Nat → Nat → Nat} {m : Nat → Nat → Int32} {N : Nat} {xs : Nat → Int32} {kc ks : Nat} {post : Int32 → Prop} {J94 : Int64 → Int32 → Int32 → Int32 → Int32 → Int32 → Int32 → (Nat → Int32) → (Nat → Int32) → (Nat → Int32) → (Nat → Int32) → (Nat → Int32) → (Nat → Int32) → Prop} {x5 x6 x10 x11 x12 x13 x14 x15 : Int32} {x : Nat} {m' : Nat → Nat → Int32} {s : Nat → Int32} (hT : T ≤ 8) (hL : L ≤ 12) (hS1 : 1 ≤ S) (hS : S ≤ 4) (R : pd_R x T L q m s st hd)
    (hm : ∀ k t, k < L → t < T → (m' k t ≠ 0 ↔ (2 ≤ q k t ∧ pe_cn S m x11 x13 k t)))
    (K : ∀ g : Int64, pe_kb g (pd_E T L q m') → ∃ f, wL_law_673 post N xs J94 (nI T) (nI L) (nI S) x5 x6 x10 x11 x12 x13 x14 x15 g kc ks (nI T) (nI L) (nI S) n st pr hd (pd_xp (pd_p q)) (pd_x m) vl f 0 0 (((1 : Int32) <<< (nI T &&& 31)) - 1) 0) :
    ∀ d l (g : Int64), l + d = L → pe_kb g (pe_gq T L q m' l 0) →
      wL_law_511 post N xs J94 (nI T) (nI L) (nI S) x5 x6 x10 x11 x12 x13 x14 x15 kc ks (nI T) (nI L) (nI S) n st pr hd (pd_xp (pd_p q)) (pd_x m) vl (d + 1) g (nI l) := by
  intro d
  induction d with
  | zero =>
    intro l g hl h
    refine br_t (nI_le (by omega) (by omega)) (nm_e (K g (pe_kb_c h (fun a b _ _ => ?_))))
    constructor
    · intro ⟨ha, hb, k, hk, z⟩
      exact ⟨k, hk, by omega, ha, hb, z⟩
    · intro ⟨k, hk, _, ha, hb, z⟩
      exact ⟨ha, hb, k, hk, z⟩
  | succ d ih =>
    intro l g hl h
    exact br_f (nI_ge (by omega) (by omega)) (xr_holder hL (by omega) ⟨T + 1, ll_529 hT hL hS1 hS R (by omega) hm (fun g' h' => ih (l + 1) g' (by omega) h') T 0 g (by omega) h⟩)
end
section
/-! one step of the law: the invariant, and what the next step is given -/
def pe_I (T L : Nat) (q : Nat → Nat → Nat) (m : Nat → Nat → Int32) (s st hd vl : Nat → Int32) (c : Nat) (x7 : Int64) : Prop :=
  pd_R 8 T L q m s st hd ∧ (∀ v, v < T → ¬ pd_C T L q m v) ∧ c ≤ 8 ∧ ∃ w : Nat → Nat, pl_list x7 w c ∧ ∀ k, k < c → vl k = nI (w k)
theorem pe_st3 {L : Nat} {q : Nat → Nat → Nat} {s st : Nat → Int32} {t : Nat} (h : pd_S L q s st t) : st t = 3 ↔ s t = 3 := by
  obtain ⟨h0, h1, h2, h3⟩ := h
  constructor
  · intro e
    by_cases z : s t = 1
    · exfalso
      by_cases w : pd_W L q t
      · rw [h1 z w] at e; exact absurd e (by decide)
      · rw [h2 z w] at e; exact absurd e (by decide)
    · rw [← h3 z]; exact e
  · intro e
    rw [h3 (by rw [e]; decide)]; exact e
theorem ll_fin {T L S : Nat} {st hd vl : Nat → Int32} {q : Nat → Nat → Nat} {m : Nat → Nat → Int32} {N : Nat} {xs : Nat → Int32} {kc ks : Nat} {post : Int32 → Prop} {J94 : Int64 → Int32 → Int32 → Int32 → Int32 → Int32 → Int32 → (Nat → Int32) → (Nat → Int32) → (Nat → Int32) → (Nat → Int32) → (Nat → Int32) → (Nat → Int32) → Prop} {x5 x6 x10 x11 x14 x15 : Int32} {c : Nat} {x7 : Int64} {s s' st' hd' pr' : Nat → Int32} {q' : Nat → Nat → Nat} {m' : Nat → Nat → Int32} (hT : T ≤ 8) (hL : L ≤ 12) (I : pe_I T L q m s st hd vl c x7) (h6 : x11 ≠ 6) (hV : ∀ v, v < T → st v = 3 → bt x15 v = true)
    (K : ∀ (q' : Nat → Nat → Nat) (m' : Nat → Nat → Int32) (s' st' hd' pr' vl' : Nat → Int32) (c' : Nat) (x7' : Int64), pe_I T L q' m' s' st' hd' vl' c' x7' → J94 x7' (nI c') (x10 + 1) (nI T) (nI L) (nI S) (nI c') (st') (pr') (hd') (pd_xp (pd_p q')) (pd_x (m')) (vl'))
    (R : pd_R 8 T L q' m' s' st' hd') (hS : pe_St T L q m s q' m' s') :
    wL_law_892 post N xs J94 (nI T) (nI L) (nI S) x5 x6 x7 (nI c) x10 x11 x14 x15 kc ks (nI T) (nI L) (nI S) (nI c) (st') (pr') (hd') (pd_xp (pd_p q')) (pd_x (m')) vl := by
  obtain ⟨R0, ac, hc, w, hw, hv⟩ := I
  have ac' : ∀ v, v < T → ¬ pd_C T L q' m' v := fun v hv c => ac v hv (pe_mono (fun a b z _ => ⟨hS.1 a b z, trivial⟩) c)
  refine ll_892 hT hL R ac' (fun e => absurd e h6) (fun _ v hvT e => hV v hvT ?_) hc hw hv (K q' m' s' st' hd' pr' vl c x7 ⟨R, ac', hc, w, hw, hv⟩)
  exact (pe_st3 (R0.2.2 v hvT (by omega))).mpr (hS.2 v ((pe_st3 (R.2.2 v hvT (by omega))).mp e))
theorem ll_779_0 {T L S : Nat} {st pr hd vl : Nat → Int32} {q : Nat → Nat → Nat} {m : Nat → Nat → Int32} {N : Nat} {xs : Nat → Int32} {kc ks : Nat} {post : Int32 → Prop} {J94 : Int64 → Int32 → Int32 → Int32 → Int32 → Int32 → Int32 → (Nat → Int32) → (Nat → Int32) → (Nat → Int32) → (Nat → Int32) → (Nat → Int32) → (Nat → Int32) → Prop} {x5 x6 x10 x11 x13 x14 x15 : Int32} {c t : Nat} {x7 : Int64} {s : Nat → Int32} (hT : T ≤ 8) (hL : L ≤ 12) (hS : S ≤ 4) (I : pe_I T L q m s st hd vl c x7) (ht : t < T) (hV : ∀ v, v < T → st v = 3 → bt x15 v = true)
    (hk : x11 = 0 ∨ x11 = 1 ∨ x11 = 2 ∨ x11 = 3 ∨ x11 = 4 ∨ (x11 = 5 ∧ nI S ≤ x13))
    (K : ∀ (q' : Nat → Nat → Nat) (m' : Nat → Nat → Int32) (s' st' hd' pr' vl' : Nat → Int32) (c' : Nat) (x7' : Int64), pe_I T L q' m' s' st' hd' vl' c' x7' → J94 x7' (nI c') (x10 + 1) (nI T) (nI L) (nI S) (nI c') (st') (pr') (hd') (pd_xp (pd_p q')) (pd_x (m')) (vl')) :
    wL_law_779 post N xs J94 (nI T) (nI L) (nI S) x5 x6 x7 (nI c) x10 x11 (nI t) x13 x14 x15 kc ks (nI T) (nI L) (nI S) (nI c) st pr hd (pd_xp (pd_p q)) (pd_x m) vl := by
  have R := I.1
  rcases hk with e | e | e | e | e | ⟨e, e2⟩
  · subst e
    exact br_t rfl (xr_begin hT R ht (fun r s' st' pr' R' hS' => ll_fin hT hL I (by decide) hV K R' hS'))
  · subst e
    exact br_f (by decide) (br_t rfl (xr_request hT hL R ht (fun r q' st' hd' R' hS' => ll_fin hT hL I (by decide) hV K R' hS')))
  · subst e
    exact br_f (by decide) (br_f (by decide) (br_t rfl (xr_drop hT hL R ht (fun r q' m' st' hd' R' hS' => ll_fin hT hL I (by decide) hV K R' hS'))))
  · subst e
    exact br_f (by decide) (br_f (by decide) (br_f (by decide) (br_t rfl (xr_commit hT hL R ht (fun r q' m' s' st' hd' R' hS' => ll_fin hT hL I (by decide) hV K R' hS')))))
  · subst e
    exact br_f (by decide) (br_f (by decide) (br_f (by decide) (br_f (by decide) (br_t rfl (xr_abort hT hL R ht (fun r q' m' s' st' hd' R' hS' => ll_fin hT hL I (by decide) hV K R' hS'))))))
  · subst e
    exact br_f (by decide) (br_f (by decide) (br_f (by decide) (br_f (by decide) (br_f (by decide) (br_t rfl (xr_report_f e2 hS (ll_fin hT hL I (by decide) hV K R pe_St_id)))))))
/-- a call that resolves: the marks it makes -/
def pe_mm (T L S : Nat) (q : Nat → Nat → Nat) (m : Nat → Nat → Int32) (x11 : Int32) (x : Nat) : Nat → Nat → Int32 := if x11 = 6 then pd_mk (pd_ma T L q) m else pd_mk (pd_ms S x T L q) m
theorem ll_779_1 {T L S : Nat} {n : Int32} {st pr hd vl : Nat → Int32} {q : Nat → Nat → Nat} {m : Nat → Nat → Int32} {N : Nat} {xs : Nat → Int32} {kc ks : Nat} {post : Int32 → Prop} {J94 : Int64 → Int32 → Int32 → Int32 → Int32 → Int32 → Int32 → (Nat → Int32) → (Nat → Int32) → (Nat → Int32) → (Nat → Int32) → (Nat → Int32) → (Nat → Int32) → Prop} {x5 x6 x10 x11 x12 x13 x14 x15 : Int32} {c x : Nat} {w : Nat → Nat} {x7 : Int64} {s : Nat → Int32} (hT2 : 2 ≤ T) (hT : T ≤ 8) (hL : L ≤ 12) (hS1 : 1 ≤ S) (hS : S ≤ 4) (R : pd_R 8 T L q m s st hd) (h14 : x14 ≠ 0)
    (hk : x11 = 6 ∨ (x11 = 5 ∧ x13 = nI x ∧ x < S)) (hr : pe_run T L pr q (pe_mm T L S q m x11 x) w c) (hw : pl_list x7 w c)
    (K : ∀ (q' : Nat → Nat → Nat) (m' : Nat → Nat → Int32) (s' st' hd' pr' vl' : Nat → Int32) (c' : Nat) (x7' : Int64), pe_I T L q' m' s' st' hd' vl' c' x7' → J94 x7' (nI c') (x10 + 1) (nI T) (nI L) (nI S) (nI c') (st') (pr') (hd') (pd_xp (pd_p q')) (pd_x (m')) (vl')) :
    wL_law_779 post N xs J94 (nI T) (nI L) (nI S) x5 x6 x7 (nI c) x10 x11 x12 x13 x14 x15 kc ks (nI T) (nI L) (nI S) n st pr hd (pd_xp (pd_p q)) (pd_x m) vl := by
  have hc : c ≤ 8 := Nat.le_trans hr.1 hT
  rcases hk with e | ⟨e, e2, e3⟩
  · subst e
    have em : pe_mm T L S q m 6 x = pd_mk (pd_ma T L q) m := if_pos rfl
    rw [em] at hr
    have ac := pe_run_acy hT hr
    have al : pe_all1 T L q (pd_mk (pd_ma T L q) m) := fun l t hl ht z => by
      show (if pd_ma T L q l t = true then (1 : Int32) else m l t) ≠ 0
      have e : pd_ma T L q l t = true := decide_eq_true ⟨hl, ht, z⟩
      rw [if_pos e]
      decide
    exact br_f (by decide) (br_f (by decide) (br_f (by decide) (br_f (by decide) (br_f (by decide) (br_f (by decide) (xr_settle hT2 hT hL R hr (fun s' st' hd' vl' R' hv => ll_892 hT hL R' ac (fun _ => pe_all_at al c) (fun z => absurd z h14) hc hw hv (K _ _ s' st' hd' pr vl' c x7 ⟨R', ac, hc, w, hw, hv⟩))))))))
  · subst e
    subst e2
    have em : pe_mm T L S q m 5 x = pd_mk (pd_ms S x T L q) m := if_neg (by decide)
    rw [em] at hr
    have ac := pe_run_acy hT hr
    exact br_f (by decide) (br_f (by decide) (br_f (by decide) (br_f (by decide) (br_f (by decide) (br_t rfl (xr_report hT2 hT hL hS1 hS e3 R hr (fun s' st' hd' vl' R' hv => ll_892 hT hL R' ac (fun z => absurd z (by decide)) (fun z => absurd z h14) hc hw hv (K _ _ s' st' hd' pr vl' c x7 ⟨R', ac, hc, w, hw, hv⟩))))))))
/-! the picks -/
def pe_pp (s pr : Nat → Int32) : Nat → Int32 := fun x => if s x = 1 then pr x else -1
theorem xr_pp {T L S : Nat} {n : Int32} {st pr hd vl : Nat → Int32} {q : Nat → Nat → Nat} {m : Nat → Nat → Int32} {post : Int32 → Prop} {t : Nat} {s : Nat → Int32} (hT : T ≤ 8) (ht : t < T) (hS : pd_S L q s st t) (hp : post (pe_pp s pr t)) : wpX_priority post (nI T, nI L, nI S, n, st, pr, hd, pd_xp (pd_p q), pd_x m, vl) (nI t) := by
  refine xr_prio hT ht hS (fun z => ?_) (fun z => ?_)
  · rw [show pe_pp s pr t = pr t from if_pos z] at hp; exact hp
  · rw [show pe_pp s pr t = -1 from if_neg z] at hp; exact hp
theorem pe_le_lt {x y : Int32} (h : x ≤ y) : x < y ∨ x = y := by
  rw [Int32.le_iff_toInt_le] at h
  rw [Int32.lt_iff_toInt_lt, ← Int32.toInt_inj]
  omega
theorem ll_685 {T L S : Nat} {n : Int32} {st pr hd vl : Nat → Int32} {q : Nat → Nat → Nat} {m : Nat → Nat → Int32} {N : Nat} {xs : Nat → Int32} {kc ks : Nat} {post : Int32 → Prop} {J94 : Int64 → Int32 → Int32 → Int32 → Int32 → Int32 → Int32 → (Nat → Int32) → (Nat → Int32) → (Nat → Int32) → (Nat → Int32) → (Nat → Int32) → (Nat → Int32) → Prop} {x5 x6 x10 x11 x12 x13 x14 x15 : Int32} {J673 : Int64 → Int32 → Int32 → Int32 → Prop} {c r : Nat} {x7 g : Int64} {rest : Int32} {s : Nat → Int32} (hT : T ≤ 8) (hS : ∀ t, t < T → pd_S L q s st t) (hne : ∃ u, u < T ∧ bt rest u = true)
    (K : ∀ a, a < T → bt rest a = true → (∀ u, u < T → bt rest u = true → u = a ∨ pd_lt (pe_pp s pr) a u) →
      (pe_D (pe_g g) (fun y => bt (rest &&& (((1 : Int32) <<< (nI a &&& 31)) ^^^ (-1))) y = true) a → J673 (x7 ||| ((nI a).toInt64 <<< ((4 * nI c).toInt64 &&& 63))) (nI (c + 1)) (rest &&& (((1 : Int32) <<< (nI a &&& 31)) ^^^ (-1))) (nI (r + 1))) ∧
      (¬ pe_D (pe_g g) (fun y => bt (rest &&& (((1 : Int32) <<< (nI a &&& 31)) ^^^ (-1))) y = true) a → J673 x7 (nI c) (rest &&& (((1 : Int32) <<< (nI a &&& 31)) ^^^ (-1))) (nI (r + 1)))) :
    ∀ d j (v : Int32), j + d = T → ((v = -1 ∧ ∀ u, u < j → bt rest u = false) ∨ (∃ a, v = nI a ∧ a < j ∧ bt rest a = true ∧ ∀ u, u < j → bt rest u = true → u = a ∨ pd_lt (pe_pp s pr) a u)) →
      wL_law_685 post N xs J94 J673 (nI T) (nI L) (nI S) x5 x6 x7 (nI c) x10 x11 x12 x13 x14 x15 g rest (nI r) kc ks (nI T) (nI L) (nI S) n st pr hd (pd_xp (pd_p q)) (pd_x m) vl (d + 1) v (nI j) := by
  intro d
  induction d with
  | zero =>
    intro j v hj h
    have e : j = T := by omega
    subst e
    rcases h with ⟨_, h⟩ | ⟨a, e, ha, hb, hm⟩
    · obtain ⟨u, hu, y⟩ := hne
      rw [h u hu] at y
      exact nomatch y
    · subst e
      obtain ⟨k1, k0⟩ := K a ha hb hm
      exact br_t (nI_le (Nat.le_refl _) (by omega)) (nm_e (lc_cycle (by omega) (fun z => br_f (by decide) (nm_e (nm_r (nI_1 _) (nm_r (nI_1 _) (k1 z))))) (fun z => br_t rfl (nm_r (nI_1 _) (k0 z)))))
  | succ d ih =>
    intro j v hj h
    have hjT : j < T := by omega
    refine br_f (nI_ge (by omega) (by omega)) ?_
    by_cases y : bt rest j = true
    · refine br_t ((pl_t1 rest (by omega)).mpr y) ?_
      rcases h with ⟨e, h⟩ | ⟨a, e, ha, hb, hm⟩
      · subst e
        refine br_t (by decide) (nm_r (nI_1 _) (ih (j + 1) _ (by omega) (Or.inr ⟨j, rfl, by omega, y, fun u hu z => ?_⟩)))
        by_cases w : u = j
        · exact Or.inl w
        · rw [h u (by omega)] at z; exact nomatch z
      · subst e
        refine br_f (nI_pos (by omega)) (xr_pp hT hjT (hS j hjT) (xr_pp hT (by omega) (hS a (by omega)) ?_))
        by_cases z : pe_pp s pr a ≤ pe_pp s pr j
        · refine br_t z (nm_r (nI_1 _) (ih (j + 1) _ (by omega) (Or.inr ⟨a, rfl, by omega, hb, fun u hu zu => ?_⟩)))
          by_cases w : u = j
          · rw [w]
            exact Or.inr ((pe_le_lt z).elim Or.inl (fun k => Or.inr ⟨k, ha⟩))
          · exact hm u (by omega) zu
        · have lt : pd_lt (pe_pp s pr) j a := Or.inl (Int32.not_le.mp z)
          refine br_f z (nm_r (nI_1 _) (ih (j + 1) _ (by omega) (Or.inr ⟨j, rfl, by omega, y, fun u hu zu => ?_⟩)))
          by_cases w : u = j
          · exact Or.inl w
          · rcases hm u (by omega) zu with k | k
            · rw [k]; exact Or.inr lt
            · exact Or.inr (pe_lt_trans lt k)
    · refine br_f (fun z => y ((pl_t1 rest (by omega)).mp z)) (nm_r (nI_1 _) (ih (j + 1) v (by omega) ?_))
      rcases h with ⟨e, h⟩ | ⟨a, e, ha, hb, hm⟩
      · refine Or.inl ⟨e, fun u hu => ?_⟩
        by_cases w : u = j
        · rw [w]
          cases k : bt rest j with
          | false => rfl
          | true => exact absurd k y
        · exact h u (by omega)
      · refine Or.inr ⟨a, e, by omega, hb, fun u hu zu => ?_⟩
        by_cases w : u = j
        · rw [w] at zu; exact absurd zu y
        · exact hm u (by omega) zu
theorem pd_cnt_f : ∀ n, pd_cnt (fun _ => false) n = 0 := by
  intro n
  induction n with
  | zero => rfl
  | succ n ih =>
    show pd_cnt (fun _ => false) n + 0 = 0
    rw [ih]
theorem pd_cnt_ne {f : Nat → Bool} {n : Nat} (h : 1 ≤ pd_cnt f n) : ∃ u, u < n ∧ f u = true := by
  apply Classical.byContradiction
  intro c
  have := pd_cnt_mono f (fun _ => false) n (fun t ht e => absurd ⟨t, ht, e⟩ c)
  rw [pd_cnt_f] at this
  omega
theorem pe_rest {rest : Int32} {a : Nat} (ha : a < 32) (x : Nat) : bt (rest &&& (((1 : Int32) <<< (nI a &&& 31)) ^^^ (-1))) x = (bt rest x && decide (x ≠ a)) := by
  by_cases h : x < 32
  · exact pl_not rest ha h
  · rw [b_big (by omega), b_big (by omega)]
    rfl
theorem ll_673 {T L S : Nat} {n : Int32} {st pr hd vl : Nat → Int32} {q : Nat → Nat → Nat} {m : Nat → Nat → Int32} {N : Nat} {xs : Nat → Int32} {kc ks : Nat} {post : Int32 → Prop} {J94 : Int64 → Int32 → Int32 → Int32 → Int32 → Int32 → Int32 → (Nat → Int32) → (Nat → Int32) → (Nat → Int32) → (Nat → Int32) → (Nat → Int32) → (Nat → Int32) → Prop} {x5 x6 x10 x11 x12 x13 x14 x15 : Int32} {m' : Nat → Nat → Int32} {g : Int64} {s : Nat → Int32} (hT : T ≤ 8) (R : pd_R 8 T L q m s st hd) (hg : pe_kb g (pd_E T L q m'))
    (K : ∀ (x7 : Int64) (w : Nat → Nat) (c : Nat), pe_run T L pr q m' w c → pl_list x7 w c → wL_law_779 post N xs J94 (nI T) (nI L) (nI S) x5 x6 x7 (nI c) x10 x11 x12 x13 x14 x15 kc ks (nI T) (nI L) (nI S) n st pr hd (pd_xp (pd_p q)) (pd_x m) vl) :
    ∀ (d r : Nat) (x7 : Int64) (c : Nat) (rest : Int32) (w : Nat → Nat), r + d = T → pe_pk T L pr q m' s w c (fun y => bt rest y = false) → pl_list x7 w c → c ≤ r → pd_cnt (bt rest) T + r = T →
      wL_law_673 post N xs J94 (nI T) (nI L) (nI S) x5 x6 x10 x11 x12 x13 x14 x15 g kc ks (nI T) (nI L) (nI S) n st pr hd (pd_xp (pd_p q)) (pd_x m) vl (d + 1) x7 (nI c) rest (nI r) := by
  have hD : ∀ (P : Nat → Prop) v, pe_D (pe_g g) P v ↔ pe_D (pd_E T L q m') P v := fun P v => by
    have h8 : ∀ a b, pe_g g a b ↔ pd_E T L q m' a b := fun a b => ⟨fun z => (hg a b z.1 z.2.1).mp z.2.2, fun z => ⟨by have := z.1; omega, by have := z.2.1; omega, (hg a b (by have := z.1; omega) (by have := z.2.1; omega)).mpr z⟩⟩
    exact ⟨fun ⟨u, a, b⟩ => ⟨u, pe_mono (fun x y z p => ⟨(h8 x y).mp z, p⟩) a, (h8 u v).mp b⟩, fun ⟨u, a, b⟩ => ⟨u, pe_mono (fun x y z p => ⟨(h8 x y).mpr z, p⟩) a, (h8 u v).mpr b⟩⟩
  intro d
  induction d with
  | zero =>
    intro r x7 c rest w hr hpk hl hc hn
    exact br_t (nI_le (by omega) (by omega)) (K x7 w c (pe_pk_end hT hpk (by omega) (fun y hy => pd_cnt_zero (bt rest) T (by omega) y hy)) hl)
  | succ d ih =>
    intro r x7 c rest w hr hpk hl hc hn
    refine br_f (nI_ge (by omega) (by omega)) ⟨T + 1, ll_685 hT (fun t ht => R.2.2 t ht (by omega)) (pd_cnt_ne (by omega)) (fun a ha hb hm => ?_) T 0 (-1) (by omega) (Or.inl ⟨rfl, fun u hu => by omega⟩)⟩
    have hr' := pe_rest (rest := rest) (a := a) (by omega)
    have nv : ¬ (bt rest a = false) := fun z => by rw [z] at hb; exact nomatch hb
    have hP : ∀ y, bt (rest &&& (((1 : Int32) <<< (nI a &&& 31)) ^^^ (-1))) y = true ↔ (¬ (bt rest y = false) ∧ y ≠ a) := fun y => by
      rw [hr' y, Bool.and_eq_true, decide_eq_true_eq]
      cases bt rest y <;> simp
    have hK : ∀ y, bt (rest &&& (((1 : Int32) <<< (nI a &&& 31)) ^^^ (-1))) y = false → bt rest y = false ∨ y = a := fun y z => by
      rw [hr' y] at z
      by_cases e : y = a
      · exact Or.inr e
      · left
        cases k : bt rest y with
        | false => rfl
        | true => rw [k] at z; simp [e] at z
    have hK2 : ∀ y, bt rest y = false → bt (rest &&& (((1 : Int32) <<< (nI a &&& 31)) ^^^ (-1))) y = false := fun y z => by
      rw [hr' y, z]; rfl
    have hKa : bt (rest &&& (((1 : Int32) <<< (nI a &&& 31)) ^^^ (-1))) a = false := by
      rw [hr' a]; simp
    have hn' : pd_cnt (bt rest) T = pd_cnt (bt (rest &&& (((1 : Int32) <<< (nI a &&& 31)) ^^^ (-1)))) T + 1 := by
      refine pd_cnt_one _ _ T a ha hKa hb (fun y _ ne => ?_)
      rw [hr' y]; simp [ne]
    have hDC := (hD (fun y => bt (rest &&& (((1 : Int32) <<< (nI a &&& 31)) ^^^ (-1))) y = true) a).trans (pe_pk_D hpk nv hP)
    refine ⟨fun z => ?_, fun z => ?_⟩
    · refine ih (r + 1) _ (c + 1) _ (fun k => if k = c then a else w k) (by omega) (pe_pk_yes (w := w) hT hpk ha hK hK2 hKa (fun k hk => if_neg (by omega)) (if_pos rfl) (hDC.mp z) (fun y hy nk ne hsy hsa => ?_)) (pl_list_s hl (by omega) (by omega) (fun k hk => if_neg (by omega)) (if_pos rfl)) (by omega) (by omega)
      have by1 : bt rest y = true := by
        cases k : bt rest y with
        | true => rfl
        | false => exact absurd k nk
      rcases hm y hy by1 with e | e
      · exact absurd e ne
      · unfold pd_lt at e
        rw [show pe_pp s pr a = pr a from if_pos hsa, show pe_pp s pr y = pr y from if_pos hsy] at e
        exact e
    · exact ih (r + 1) x7 c _ w (by omega) (pe_pk_no hpk hK hK2 (fun y => z (hDC.mpr y))) hl (by omega) (by omega)
end
section
theorem pd_cnt_t : ∀ n, pd_cnt (fun _ => true) n = n := by
  intro n
  induction n with
  | zero => rfl
  | succ n ih =>
    show pd_cnt (fun _ => true) n + 1 = n + 1
    rw [ih]
theorem pd_mk_iff {p : Nat → Nat → Bool} {m : Nat → Nat → Int32} {l t : Nat} : pd_mk p m l t ≠ 0 ↔ (p l t = true ∨ m l t ≠ 0) := by
  constructor
  · intro h
    exact (pd_mk_m h).elim Or.inr Or.inl
  · intro h
    show (if p l t = true then (1 : Int32) else m l t) ≠ 0
    by_cases z : p l t = true
    · rw [if_pos z]; decide
    · rw [if_neg z]; exact h.resolve_left z
theorem pe_mm_iff {T L S x : Nat} {q : Nat → Nat → Nat} {m : Nat → Nat → Int32} {s : Nat → Int32} {x11 x13 : Int32} (hS1 : 1 ≤ S) (hS : S ≤ 4) (h : pd_G T L q m s) (hk : x11 = 6 ∨ (x11 = 5 ∧ x13 = nI x ∧ x < S)) (k t : Nat) (hkL : k < L) (ht : t < T) :
    pe_mm T L S q m x11 x k t ≠ 0 ↔ (2 ≤ q k t ∧ pe_cn S m x11 x13 k t) := by
  have h2 := h.2.1 k t hkL ht
  rcases hk with e | ⟨e, e2, e3⟩
  · subst e
    rw [show pe_mm T L S q m 6 x = pd_mk (pd_ma T L q) m from if_pos rfl, pd_mk_iff]
    simp only [pd_ma, decide_eq_true_eq]
    constructor
    · intro z
      exact ⟨z.elim (fun y => y.2.2) h2, Or.inl rfl⟩
    · intro z
      exact Or.inl ⟨hkL, ht, z.1⟩
  · subst e
    subst e2
    rw [show pe_mm T L S q m 5 x = pd_mk (pd_ms S x T L q) m from if_neg (by decide), pd_mk_iff]
    have hm := Nat.mod_lt k (show 0 < S by omega)
    simp only [pd_ms, decide_eq_true_eq]
    constructor
    · intro z
      rcases z with z | z
      · exact ⟨z.2.2.2, Or.inr (Or.inl (by rw [z.2.1]))⟩
      · exact ⟨h2 z, Or.inr (Or.inr z)⟩
    · intro ⟨z1, z2⟩
      rcases z2 with z | z | z
      · exact absurd z (by decide)
      · rw [nI_eq (by omega) (by omega)] at z
        exact Or.inl ⟨hkL, z, ht, z1⟩
      · exact Or.inr z
theorem pe_mm_R {T L S x : Nat} {q : Nat → Nat → Nat} {m : Nat → Nat → Int32} {s st hd : Nat → Int32} {x11 : Int32} (R : pd_R 8 T L q m s st hd) : pd_R 8 T L q (pe_mm T L S q m x11 x) s st hd := by
  unfold pe_mm
  by_cases e : x11 = 6
  · rw [if_pos e]; exact pd_R_mk R (fun a b h => (of_decide_eq_true h).2.2)
  · rw [if_neg e]; exact pd_R_mk R (fun a b h => (of_decide_eq_true h).2.2.2)
theorem ll_468 {T L S : Nat} {st pr hd vl : Nat → Int32} {q : Nat → Nat → Nat} {m : Nat → Nat → Int32} {N : Nat} {xs : Nat → Int32} {kc ks : Nat} {post : Int32 → Prop} {J94 : Int64 → Int32 → Int32 → Int32 → Int32 → Int32 → Int32 → (Nat → Int32) → (Nat → Int32) → (Nat → Int32) → (Nat → Int32) → (Nat → Int32) → (Nat → Int32) → Prop} {x5 x6 x10 x11 x13 x14 : Int32} {c t : Nat} {x7 : Int64} {s : Nat → Int32} (hT2 : 2 ≤ T) (hT : T ≤ 8) (hL : L ≤ 12) (hS1 : 1 ≤ S) (hS : S ≤ 4) (I : pe_I T L q m s st hd vl c x7) (ht : t < T)
    (hk : (x14 = 0 ∧ (x11 = 0 ∨ x11 = 1 ∨ x11 = 2 ∨ x11 = 3 ∨ x11 = 4 ∨ (x11 = 5 ∧ nI S ≤ x13))) ∨ (x14 = 1 ∧ ∃ x, x11 = 6 ∨ (x11 = 5 ∧ x13 = nI x ∧ x < S)))
    (K : ∀ (q' : Nat → Nat → Nat) (m' : Nat → Nat → Int32) (s' st' hd' pr' vl' : Nat → Int32) (c' : Nat) (x7' : Int64), pe_I T L q' m' s' st' hd' vl' c' x7' → J94 x7' (nI c') (x10 + 1) (nI T) (nI L) (nI S) (nI c') (st') (pr') (hd') (pd_xp (pd_p q')) (pd_x (m')) (vl')) :
    ∀ d j (x15 : Int32), j + d = T → (∀ u, u < 32 → (bt x15 u = true ↔ u < j ∧ st u = 3)) →
      wL_law_468 post N xs J94 (nI T) (nI L) (nI S) x5 x6 x7 (nI c) x10 x11 (nI t) x13 x14 kc ks (nI T) (nI L) (nI S) (nI c) st pr hd (pd_xp (pd_p q)) (pd_x m) vl (d + 1) x15 (nI j) := by
  intro d
  induction d with
  | zero =>
    intro j x15 hj h
    have e : j = T := by omega
    subst e
    refine br_t (nI_le (Nat.le_refl _) (by omega)) ?_
    rcases hk with ⟨e, hk⟩ | ⟨e, x, hk⟩
    · exact br_t e (ll_779_0 hT hL hS I ht (fun v hv z => (h v (by omega)).mpr ⟨hv, z⟩) hk K)
    · have h14 : x14 ≠ 0 := by rw [e]; decide
      have hm := pe_mm_iff (x := x) hS1 hS I.1.1 hk
      have RM := pe_mm_R (S := S) (x := x) (x11 := x11) I.1
      refine br_f h14 ⟨L + 1, ll_511 (m' := pe_mm j L S q m x11 x) hT hL hS1 hS I.1 hm (fun g hg => ⟨j + 1, ?_⟩) L 0 0 (by omega) (pe_kb_0 (fun a b z => ?_))⟩
      · have hbits : ∀ i, i < j → bt (((1 : Int32) <<< (nI j &&& 31)) - 1) i = true := fun i hi => by rw [pl_full j (by omega) i (by omega)]; exact decide_eq_true hi
        refine ll_673 hT I.1 hg (fun x7' w c' hr hl => ll_779_1 (x := x) hT2 hT hL hS1 hS I.1 h14 hk hr hl K) j 0 0 0 _ (fun _ => 0) (by omega) (pe_pk_0 RM.1 (fun y hy => ?_)) (pl_list_0 _) (by omega) ?_
        · apply Nat.le_of_not_lt
          intro z
          rw [hbits y z] at hy
          exact nomatch hy
        · rw [pd_cnt_congr (bt (((1 : Int32) <<< (nI j &&& 31)) - 1)) (fun _ => true) j hbits, pd_cnt_t]
          rfl
      · obtain ⟨k, hkL, c1, ha, hb, z1, _, _⟩ := z
        have := ((hm k a hkL ha).mp z1).1
        omega
  | succ d ih =>
    intro j x15 hj h
    refine br_f (nI_ge (by omega) (by omega)) (xr_state hT (by omega) ?_)
    by_cases z : st j = 3
    · exact br_t z (nm_e (nm_r (nI_1 _) (ih (j + 1) _ (by omega) (pd_bj (by omega) h z))))
    · exact br_f z (nm_r (nI_1 _) (ih (j + 1) _ (by omega) (pd_bn h z)))
theorem ll_436 {T L S : Nat} {st pr hd vl : Nat → Int32} {q : Nat → Nat → Nat} {m : Nat → Nat → Int32} {N : Nat} {xs : Nat → Int32} {kc ks : Nat} {post : Int32 → Prop} {J94 : Int64 → Int32 → Int32 → Int32 → Int32 → Int32 → Int32 → (Nat → Int32) → (Nat → Int32) → (Nat → Int32) → (Nat → Int32) → (Nat → Int32) → (Nat → Int32) → Prop} {x5 x6 x10 x11 x13 : Int32} {c t : Nat} {x7 : Int64} {s : Nat → Int32} (hT2 : 2 ≤ T) (hT : T ≤ 8) (hL : L ≤ 12) (hS1 : 1 ≤ S) (hS : S ≤ 4) (I : pe_I T L q m s st hd vl c x7) (ht : t < T)
    (hk : x11 = 0 ∨ x11 = 1 ∨ x11 = 2 ∨ x11 = 3 ∨ x11 = 4 ∨ (x11 = 5 ∧ ∃ x, x13 = nI x ∧ x ≤ S) ∨ x11 = 6)
    (K : ∀ (q' : Nat → Nat → Nat) (m' : Nat → Nat → Int32) (s' st' hd' pr' vl' : Nat → Int32) (c' : Nat) (x7' : Int64), pe_I T L q' m' s' st' hd' vl' c' x7' → J94 x7' (nI c') (x10 + 1) (nI T) (nI L) (nI S) (nI c') (st') (pr') (hd') (pd_xp (pd_p q')) (pd_x (m')) (vl')) :
    wL_law_436 post N xs J94 (nI T) (nI L) (nI S) x5 x6 x7 (nI c) x10 x11 (nI t) x13 kc ks (nI T) (nI L) (nI S) (nI c) st pr hd (pd_xp (pd_p q)) (pd_x m) vl := by
  have go := fun (x14 : Int32) hk' => ll_468 (N := N) (xs := xs) (kc := kc) (ks := ks) (post := post) (J94 := J94) (x5 := x5) (x6 := x6) (x10 := x10) (x11 := x11) (x13 := x13) (x14 := x14) (pr := pr) (S := S) hT2 hT hL hS1 hS I ht hk' K T 0 0 (by omega) pd_b00
  by_cases e6 : x11 = 6
  · exact br_t e6 ⟨T + 1, go 1 (Or.inr ⟨rfl, 0, Or.inl e6⟩)⟩
  · refine br_f e6 ?_
    by_cases e5 : x11 = 5
    · obtain ⟨x, ex, hx⟩ : ∃ x, x13 = nI x ∧ x ≤ S := by
        rcases hk with h | h | h | h | h | h | h
        · rw [e5] at h; exact absurd h (by decide)
        · rw [e5] at h; exact absurd h (by decide)
        · rw [e5] at h; exact absurd h (by decide)
        · rw [e5] at h; exact absurd h (by decide)
        · rw [e5] at h; exact absurd h (by decide)
        · exact h.2
        · exact absurd h e6
      refine br_t e5 ?_
      by_cases z : x < S
      · refine br_f ?_ ⟨T + 1, go 1 (Or.inr ⟨rfl, x, Or.inr ⟨e5, ex, z⟩⟩)⟩
        rw [ex]
        exact nI_ge z (by omega)
      · have zz : nI S ≤ x13 := by rw [ex]; exact nI_le (by omega) (by omega)
        exact br_t zz ⟨T + 1, go 0 (Or.inl ⟨rfl, Or.inr (Or.inr (Or.inr (Or.inr (Or.inr ⟨e5, zz⟩))))⟩)⟩
    · refine br_f e5 ⟨T + 1, go 0 (Or.inl ⟨rfl, ?_⟩)⟩
      rcases hk with h | h | h | h | h | h | h
      · exact Or.inl h
      · exact Or.inr (Or.inl h)
      · exact Or.inr (Or.inr (Or.inl h))
      · exact Or.inr (Or.inr (Or.inr (Or.inl h)))
      · exact Or.inr (Or.inr (Or.inr (Or.inr (Or.inl h))))
      · exact absurd h.1 e5
      · exact absurd h e6
end
section
/-! the law's loop, and the law -/
theorem lm_cn {post : Int32 → Prop} {N k : Nat} {xs : Nat → Int32} (hN : N ≤ 260) (hk : k < 2 ^ 31) (h : ∀ z, z < 2 ^ 31 → post (nI z)) : wpL_cell (fun r => wpL_num post () r) N xs () (nI k) := by
  have hn : ∀ p : Int32, wpL_num post () p := fun p => by
    obtain ⟨j, hj, e⟩ := pk_andE p (m := 2147483647) 31 (by decide)
    show post (p &&& 2147483647)
    rw [e]
    exact h j hj
  by_cases z : N ≤ k
  · exact br_t (nI_le z hk) (hn 0)
  · exact br_f (nI_ge (by omega) (by omega)) ⟨vp_in_nI (by omega) (by omega), hn _⟩
theorem lm_prio {post : Int32 → Prop} {p : Int32} (h : ∀ r, post r) : wpL_prio post () p :=
  ⟨by decide, br_c (fun _ => h _) (fun _ => ⟨by decide, by decide, h _⟩)⟩
theorem lm_2 (T : Nat) : (2 : Int32) * nI T = nI (2 * T) := by
  rw [show (2 : Int32) = nI 2 from rfl, pk_mul]
theorem lm_94 {T L S N o kc ks : Nat} {xs : Nat → Int32} (hN : N ≤ 260) (hT2 : 2 ≤ T) (hT : T ≤ 8) (hL1 : 1 ≤ L) (hL : L ≤ 12) (hS1 : 1 ≤ S) (hS : S ≤ 4) (ho : o ≤ 100) :
    ∀ (d k : Nat) (q : Nat → Nat → Nat) (m : Nat → Nat → Int32) (s st hd pr vl : Nat → Int32) (c : Nat) (x7 : Int64), k + d = 2 * T + o + 2 → pe_I T L q m s st hd vl c x7 →
      wL_law_94 (fun r => r = 1) N xs (nI T) (nI L) (nI S) (nI o) (nI (2 * T + o + 2)) kc ks (d + 1) x7 (nI c) (nI k) (nI T) (nI L) (nI S) (nI c) st pr hd (pd_xp (pd_p q)) (pd_x m) vl := by
  intro d
  induction d with
  | zero =>
    intro k q m s st hd pr vl c x7 hk I
    exact br_t (nI_le (by omega) (by omega)) rfl
  | succ d ih =>
    intro k q m s st hd pr vl c x7 hk I
    have go : ∀ (x11 x13 : Int32) (t : Nat), t < T → (x11 = 0 ∨ x11 = 1 ∨ x11 = 2 ∨ x11 = 3 ∨ x11 = 4 ∨ (x11 = 5 ∧ ∃ x, x13 = nI x ∧ x ≤ S) ∨ x11 = 6) →
        wL_law_436 (fun r => r = 1) N xs (wL_law_94 (fun r => r = 1) N xs (nI T) (nI L) (nI S) (nI o) (nI (2 * T + o + 2)) kc ks (d + 1)) (nI T) (nI L) (nI S) (nI o) (nI (2 * T + o + 2)) x7 (nI c) (nI k) x11 (nI t) x13 kc ks (nI T) (nI L) (nI S) (nI c) st pr hd (pd_xp (pd_p q)) (pd_x m) vl := fun x11 x13 t ht hv =>
      ll_436 hT2 hT hL hS1 hS I ht hv (fun q' m' s' st' hd' pr' vl' c' x7' I' => by
        rw [nI_1]
        exact ih (k + 1) q' m' s' st' hd' pr' vl' c' x7' (by omega) I')
    refine br_f (nI_ge (by omega) (by omega)) ?_
    rw [lm_2 T]
    by_cases a : 2 * T ≤ k
    · refine br_t (nI_le a (by omega)) ?_
      rw [nI_add (2 * T) o]
      by_cases b : 2 * T + o ≤ k
      · refine br_t (nI_le b (by omega)) ?_
        rw [show nI (2 * T + o + 2) - 2 = nI (2 * T + o) from (pk_sub (a := 2 * T + o + 2) (b := 2) (by omega)).trans (congrArg nI (by omega))]
        by_cases e : k = 2 * T + o
        · refine br_t (by rw [e]) (nm_r (show nI S - 1 = nI (S - 1) from pk_sub (b := 1) (by omega)) ?_)
          exact go 5 (nI (S - 1)) 0 (by omega) (Or.inr (Or.inr (Or.inr (Or.inr (Or.inr (Or.inl ⟨rfl, S - 1, rfl, by omega⟩))))))
        · refine br_f (fun z => e ((nI_eq (by omega) (by omega)).mp z)) ?_
          exact go 6 0 0 (by omega) (Or.inr (Or.inr (Or.inr (Or.inr (Or.inr (Or.inr rfl))))))
      · refine br_f (nI_ge (by omega) (by omega)) ?_
        have e14 : ((3 : Int32) + nI T) + (3 * (nI k - nI (2 * T))) = nI (3 + T + 3 * (k - 2 * T)) := by
          rw [pk_sub a, show (3 : Int32) = nI 3 from rfl, nI_add, pk_mul, nI_add]
        refine nm_r e14 ?_
        rw [nI_1, show nI (3 + T + 3 * (k - 2 * T)) + 2 = nI (3 + T + 3 * (k - 2 * T) + 2) from nI_add _ 2]
        refine lm_cn hN (by omega) (fun z1 h1 => ⟨by decide, nm_r (pk_rem (d := 16) h1 (by omega) (by omega)) ?_⟩)
        refine lm_cn hN (by omega) (fun z2 h2 => ⟨nI_ne0 (by omega) (by omega), nm_r (pk_rem h2 (by omega) (by omega)) ?_⟩)
        have ht : z2 % T < T := Nat.mod_lt _ (by omega)
        refine lm_cn hN (by omega) (fun z3 h3 => ?_)
        have k5 : wL_law_242 (fun r => r = 1) N xs (wL_law_94 (fun r => r = 1) N xs (nI T) (nI L) (nI S) (nI o) (nI (2 * T + o + 2)) kc ks (d + 1)) (nI T) (nI L) (nI S) (nI o) (nI (2 * T + o + 2)) x7 (nI c) (nI k) (nI (z2 % T)) (nI z3) kc ks (nI T) (nI L) (nI S) (nI c) st pr hd (pd_xp (pd_p q)) (pd_x m) vl := by
          unfold wL_law_242
          rw [nI_1]
          refine ⟨nI_ne0 (by omega) (by omega), nm_r (pk_rem h3 (by omega) (by omega)) ?_⟩
          exact go 5 (nI (z3 % (S + 1))) (z2 % T) ht (Or.inr (Or.inr (Or.inr (Or.inr (Or.inr (Or.inl ⟨rfl, z3 % (S + 1), rfl, by have := Nat.mod_lt z3 (show 0 < S + 1 by omega); omega⟩))))))
        have k01 : ∀ z0 : Int32, wL_law_383 (fun r => r = 1) N xs (wL_law_94 (fun r => r = 1) N xs (nI T) (nI L) (nI S) (nI o) (nI (2 * T + o + 2)) kc ks (d + 1)) (nI T) (nI L) (nI S) (nI o) (nI (2 * T + o + 2)) x7 (nI c) (nI k) (nI (z2 % T)) (nI z3) z0 kc ks (nI T) (nI L) (nI S) (nI c) st pr hd (pd_xp (pd_p q)) (pd_x m) vl := fun z0 => by
          have k1 : ∀ (z0 y : Int32), (y = 0 ∨ y = 1) → wL_law_395 (fun r => r = 1) N xs (wL_law_94 (fun r => r = 1) N xs (nI T) (nI L) (nI S) (nI o) (nI (2 * T + o + 2)) kc ks (d + 1)) (nI T) (nI L) (nI S) (nI o) (nI (2 * T + o + 2)) x7 (nI c) (nI k) (nI (z2 % T)) (nI z3) z0 y kc ks (nI T) (nI L) (nI S) (nI c) st pr hd (pd_xp (pd_p q)) (pd_x m) vl := fun z0 y hy =>
            br_c (fun _ => ⟨nI_ne0 (by omega) (by omega), go y _ (z2 % T) ht (hy.elim Or.inl (fun w => Or.inr (Or.inl w)))⟩) (fun _ => lm_prio (fun r => go y r (z2 % T) ht (hy.elim Or.inl (fun w => Or.inr (Or.inl w)))))
          exact br_c (fun _ => k1 z0 1 (Or.inr rfl)) (fun _ => k1 z0 0 (Or.inl rfl))
        refine br_c (fun _ => k5) (fun _ => br_c (fun _ => k5) (fun _ => br_c (fun _ => ⟨nI_ne0 (by omega) (by omega), nm_e (go 2 _ (z2 % T) ht (Or.inr (Or.inr (Or.inl rfl))))⟩) (fun _ => br_c (fun _ => go 4 0 (z2 % T) ht (Or.inr (Or.inr (Or.inr (Or.inr (Or.inl rfl)))))) (fun _ => br_c (fun _ => go 3 0 (z2 % T) ht (Or.inr (Or.inr (Or.inr (Or.inl rfl))))) (fun _ => br_c (fun _ => go 6 0 (z2 % T) ht (Or.inr (Or.inr (Or.inr (Or.inr (Or.inr (Or.inr rfl))))))) (fun _ => br_c (fun _ => lm_prio (fun r => go 0 r (z2 % T) ht (Or.inl rfl))) (fun _ => br_c (fun _ => ⟨?_, nm_e (go 1 _ (z2 % T) ht (Or.inr (Or.inl rfl)))⟩) (fun _ => xr_state hT ht (br_c (fun _ => k01 1) (fun _ => br_c (fun _ => k01 1) (fun _ => k01 0)))))))))))
        rw [show nI L + 3 = nI (L + 3) from nI_add L 3]
        exact nI_ne0 (by omega) (by omega)
    · refine br_f (nI_ge (by omega) (by omega)) ⟨by decide, nm_r (pk_div (d := 2) (by omega) (by omega) (by omega)) ⟨by decide, nm_r (pk_rem (d := 2) (by omega) (by omega) (by omega)) ?_⟩⟩
      have ht : k / 2 < T := by omega
      by_cases z : k % 2 = 0
      · have z' : nI (k % 2) = 0 := by rw [z]; rfl
        refine br_t z' ?_
        rw [show (3 : Int32) + nI (k / 2) = nI (3 + k / 2) from nI_add 3 _]
        exact lm_cn hN (by omega) (fun z1 h1 => lm_prio (fun r => go _ r (k / 2) ht (Or.inl z')))
      · have z' : nI (k % 2) = 1 := by rw [show k % 2 = 1 by omega]; rfl
        exact br_f (nI_ne0 (by omega) (by omega)) ⟨nI_ne0 (by omega) (by omega), go _ _ (k / 2) ht (Or.inr (Or.inl z'))⟩
def lm_fill (j : Nat) : Nat → Int32 := fun c => if c < j then -1 else 0
theorem lm_fill_0 : lm_fill 0 = fun _ => 0 := by
  funext c
  exact if_neg (Nat.not_lt_zero c)
theorem lm_fill_s (j : Nat) : upd (lm_fill j) j (-1) = lm_fill (j + 1) := by
  funext c
  have key : (c = j ∨ c < j) ↔ c < j + 1 := by omega
  exact pd_if2 key
theorem lm_init {post : St2 → Prop} {mc ms kc ks : Nat} {f1 f2 f3 f4 : Int32} {a1 a2 a4 a5 a6 : Nat → Int32} (hp : post (f1, f2, f3, f4, a1, a2, lm_fill 12, a4, a5, a6)) :
    ∀ d j, j + d = 12 → wX_init_87 post mc ms kc ks f1 f2 f3 f4 (d + 1) (nI j) a1 a2 (lm_fill j) a4 a5 a6 := by
  intro d
  induction d with
  | zero =>
    intro j hj
    have e : j = 12 := by omega
    subst e
    exact br_t (nI_le (a := 12) (by omega) (by omega)) hp
  | succ d ih =>
    intro j hj
    refine br_f (nI_ge (b := 12) (by omega) (by decide)) ⟨vp_in_nI (by omega) (by decide), ?_⟩
    rw [nI_clamp (n := j) (by omega), lm_fill_s]
    exact nm_e (nm_r (nI_1 _) (ih (j + 1) (by omega)))
theorem lm_n0 {f : Nat → Nat} : ∀ T, (∀ t, t < T → f t = 0) → pd_n T f = 0 := by
  intro T
  induction T with
  | zero => intro _; rfl
  | succ T ih =>
    intro h
    rw [pd_n_s0 (h T (by omega))]
    exact ih (fun t ht => h t (by omega))
theorem lm_01 : ¬ (0 : Int32) = 1 := by decide
theorem lm_I0 {T L : Nat} (hL : L ≤ 12) : pe_I T L (fun _ _ => 0) (fun _ _ => 0) (fun _ => 0) (fun _ => 0) (lm_fill 12) (fun _ => 0) 0 0 := by
  have R : pd_R 8 T L (fun _ _ => 0) (fun _ _ => 0) (fun _ => 0) (fun _ => 0) (lm_fill 12) := by
    refine ⟨⟨fun l _ => ?_, fun l t _ _ c => absurd rfl c, fun l t _ ht c => absurd rfl c, fun l t => by show 0 < 16; omega⟩, fun l hl => ⟨fun t ht e => ?_, fun _ => if_pos (by omega)⟩, fun t ht _ => ⟨Or.inl rfl, fun c => absurd c lm_01, fun c => absurd c lm_01, fun _ => rfl⟩⟩
    · have n0 : pd_n T (fun _ => 0) = 0 := lm_n0 T (fun t ht => rfl)
      exact ⟨fun t ht => Nat.zero_le _, fun k k0 kn => by have kn' : k ≤ pd_n T (fun _ => 0) := kn; omega, fun t u ht _ _ c => absurd rfl c⟩
    · have : (0 : Nat) = 1 := e
      omega
  exact ⟨R, fun v hv c => absurd (pd_RC_live R.1 c).1 lm_01, by omega, fun _ => 0, pl_list_0 _, fun k hk => by omega⟩
theorem lm_73 {T L S N o kc ks : Nat} {xs : Nat → Int32} (hN : N ≤ 260) (hT2 : 2 ≤ T) (hT : T ≤ 8) (hL1 : 1 ≤ L) (hL : L ≤ 12) (hS1 : 1 ≤ S) (hS : S ≤ 4) (ho : o ≤ 100) :
    wL_law_73 (fun r => r = 1) N xs (nI T) (nI L) (nI S) (nI o) kc ks (nI T) (nI L) (nI S) 0 (fun _ => 0) (fun _ => 0) (lm_fill 12) (fun _ => 0) (fun _ => 0) (fun _ => 0) := by
  have e6 : ((2 * nI T) + nI o) + 2 = nI (2 * T + o + 2) := by
    rw [lm_2, nI_add]
    exact nI_add _ 2
  exact nm_r e6 ⟨_, lm_94 hN hT2 hT hL1 hL hS1 hS ho (2 * T + o + 2) 0 (fun _ _ => 0) (fun _ _ => 0) (fun _ => 0) (fun _ => 0) (lm_fill 12) (fun _ => 0) (fun _ => 0) 0 0 (by omega) (lm_I0 hL)⟩
theorem i_vc (xs : Nat → Int32) (L : Nat) (hL : L ≤ 260) : wpL_law (fun r => r = 1) L xs := by
  unfold wpL_law
  refine lm_cn (k := 0) hL (by omega) (fun z1 h1 => ⟨by decide, nm_r (e' := nI (2 + z1 % 7)) ?_ ?_⟩)
  · rw [show nI z1 - nI z1 / 7 * 7 = nI (z1 % 7) from pk_rem (d := 7) h1 (by omega) (by omega)]
    exact nI_add 2 _
  refine lm_cn (k := 1) hL (by omega) (fun z2 h2 => ⟨by decide, nm_r (e' := nI (2 + z2 % 8)) ?_ ?_⟩)
  · rw [show nI z2 - nI z2 / 8 * 8 = nI (z2 % 8) from pk_rem (d := 8) h2 (by omega) (by omega)]
    exact nI_add 2 _
  refine lm_cn (k := 2) hL (by omega) (fun z3 h3 => ⟨by decide, nm_r (e' := nI (1 + z3 % 4)) ?_ ?_⟩)
  · rw [show nI z3 - nI z3 / 4 * 4 = nI (z3 % 4) from pk_rem (d := 4) h3 (by omega) (by omega)]
    exact nI_add 1 _
  have m1 := Nat.mod_lt z1 (show 0 < 7 by omega)
  have m2 := Nat.mod_lt z2 (show 0 < 8 by omega)
  have m3 := Nat.mod_lt z3 (show 0 < 4 by omega)
  generalize eT : 2 + z1 % 7 = T
  generalize eM : 2 + z2 % 8 = M
  generalize eS : 1 + z3 % 4 = S
  refine ⟨6, 228, by omega, by omega, by omega, by omega, by omega, by omega, by omega, by omega, by omega, by omega, by omega, by omega, by omega, by omega, ?_⟩
  refine br_t (nI_le (a := 2) (by omega) (by omega)) (br_t (nI_le (b := 8) (by omega) (by omega)) ?_)
  refine br_t (nI_le (a := 1) (by omega) (by omega)) (br_t (nI_le (b := 12) (by omega) (by omega)) ?_)
  refine br_t (nI_le (a := 1) (by omega) (by omega)) (br_t (nI_le (b := 4) (by omega) (by omega)) ⟨13, ?_⟩)
  rw [← lm_fill_0]
  refine lm_init ?_ 12 0 (by omega)
  rw [lm_fill_0]
  dsimp only
  rw [show (3 : Int32) + nI T = nI (3 + T) from nI_add 3 T]
  by_cases z : L ≤ 3 + T
  · exact br_t (nI_le z (by omega)) (lm_73 (o := 0) hL (by omega) (by omega) (by omega) (by omega) (by omega) (by omega) (by omega))
  · refine br_f (nI_ge (by omega) (by omega)) ⟨by decide, ?_⟩
    have e : ((Int32.ofNat L - 1) - nI T) / 3 = nI ((L - 1 - T) / 3) := by
      have e1 : Int32.ofNat L - 1 = nI (L - 1) := pk_sub (a := L) (b := 1) (by omega)
      rw [e1, pk_sub (by omega)]
      exact pk_div (d := 3) (by omega) (by omega) (by omega)
    rw [e]
    exact lm_73 hL (by omega) (by omega) (by omega) (by omega) (by omega) (by omega) (by omega)
end
