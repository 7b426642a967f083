/-! the reference's place of a place, and sets as bits -/
def pd_v : Nat → Int32
  | 0 => -1
  | k + 1 => nI k
theorem pd_v_none : ∀ k, k < 16 → (pd_v k = -1 ↔ k = 0) := by decide +kernel
theorem pd_v_zero : ∀ k, k < 16 → (pd_v k = 0 ↔ k = 1) := by decide +kernel
theorem pd_v_le0 : ∀ k, k < 16 → (pd_v k ≤ 0 ↔ ¬ 2 ≤ k) := by decide +kernel
theorem pd_v_gt0 : ∀ k, k < 16 → (0 < pd_v k ↔ 2 ≤ k) := by decide +kernel
theorem pd_v_le : ∀ a, a < 16 → ∀ b, b < 16 → (pd_v a ≤ pd_v b ↔ ¬ b < a) := by decide +kernel
theorem pd_v_lt : ∀ a, a < 16 → ∀ b, b < 16 → (pd_v a < pd_v b ↔ a < b) := by decide +kernel
theorem pd_v_eq : ∀ a, a < 16 → ∀ b, b < 16 → (pd_v a = nI b ↔ a = b + 1) := by decide +kernel
theorem pd_v_dec (k : Nat) (h : 0 < k) : pd_v k + (-1) = pd_v (k - 1) := by
  rcases k with _ | _ | k
  · omega
  · decide +kernel
  · exact pk_m1 k
theorem pd_has (r : Int32) (t : Nat) (ht : t < 32) : (r &&& ((1 : Int32) <<< (nI t &&& 31))) = 0 ↔ bt r t = false := by
  rw [← Int32.toBitVec_inj, Int32.toBitVec_and, nf_sh t ht, BitVec.and_twoPow]
  show (if r.toBitVec.getLsbD t = true then BitVec.twoPow 32 t else 0#32) = 0#32 ↔ r.toBitVec.getLsbD t = false
  cases r.toBitVec.getLsbD t
  · exact ⟨fun _ => rfl, fun _ => rfl⟩
  · exact ⟨fun z => absurd ((if_pos rfl).symm.trans z) (nf_tp t ht), fun z => nomatch z⟩
theorem pd_bit {u i : Nat} (hu : u < 32) : bt ((1 : Int32) <<< (nI u &&& 31)) i = decide (i = u) := by
  unfold bt
  rw [nf_sh u hu, BitVec.getLsbD_twoPow]
  by_cases h : i = u
  · subst h; simp [hu]
  · simp [h, Ne.symm h]
theorem pd_ix8 (l t : Nat) : nI l * 8 + nI t = nI (l * 8 + t) := by
  rw [show (8 : Int32) = nI 8 from rfl, pk_mul, nI_add]
theorem pd_ix8' (l : Nat) : nI l * 8 = nI (l * 8) := by
  rw [show (8 : Int32) = nI 8 from rfl, pk_mul]
theorem pd_ix12 (l t : Nat) : nI t * 12 + nI l = nI (t * 12 + l) := by
  rw [show (12 : Int32) = nI 12 from rfl, pk_mul, nI_add]
theorem pd_b1 : vp_nar .boolean 1 = 1 := rfl
theorem pd_b0 : vp_nar .boolean 0 = 0 := rfl
/-! t leaves all locks at which its place is such, one lock after another -/
def pd_c1 : Nat → Bool := fun k => decide (2 ≤ k)
def pd_c2 : Nat → Bool := fun k => decide (k = 1)
def pd_it (c : Nat → Bool) (T t : Nat) (q : Nat → Nat → Nat) (m : Nat → Nat → Int32) : Nat → (Nat → Nat → Nat) × (Nat → Nat → Int32)
  | 0 => (q, m)
  | j + 1 => if c ((pd_it c T t q m j).1 j t) = true then (pd_rem T (pd_it c T t q m j).1 j t, pd_mrem T (pd_it c T t q m j).1 (pd_it c T t q m j).2 j t) else pd_it c T t q m j
theorem pd_it_t {c : Nat → Bool} {T t : Nat} {q : Nat → Nat → Nat} {m : Nat → Nat → Int32} {j : Nat} (h : c ((pd_it c T t q m j).1 j t) = true) :
    pd_it c T t q m (j + 1) = (pd_rem T (pd_it c T t q m j).1 j t, pd_mrem T (pd_it c T t q m j).1 (pd_it c T t q m j).2 j t) := by
  rw [pd_it, if_pos h]
theorem pd_it_f {c : Nat → Bool} {T t : Nat} {q : Nat → Nat → Nat} {m : Nat → Nat → Int32} {j : Nat} (h : ¬ c ((pd_it c T t q m j).1 j t) = true) :
    pd_it c T t q m (j + 1) = pd_it c T t q m j := by
  rw [pd_it, if_neg h]
theorem pd_c1_iff {k : Nat} : pd_c1 k = true ↔ 2 ≤ k := decide_eq_true_iff
theorem pd_c2_iff {k : Nat} : pd_c2 k = true ↔ k = 1 := decide_eq_true_iff
/-- places stay small -/
theorem pd_rem_lt {T : Nat} {q : Nat → Nat → Nat} {l t : Nat} (h : ∀ a b, q a b < 16) : ∀ a b, pd_rem T q l t a b < 16 := fun a b => by
  have h1 := h l b
  have h2 := h a b
  unfold pd_rem
  split
  · split
    · omega
    · split <;> omega
  · exact h2
theorem pd_it_lt {c : Nat → Bool} {T t : Nat} {q : Nat → Nat → Nat} {m : Nat → Nat → Int32} (h : ∀ a b, q a b < 16) : ∀ j, ∀ a b, (pd_it c T t q m j).1 a b < 16 := by
  intro j
  induction j with
  | zero => exact h
  | succ j ih =>
    by_cases z : c ((pd_it c T t q m j).1 j t) = true
    · rw [pd_it_t z]; exact pd_rem_lt ih
    · rw [pd_it_f z]; exact ih
/-- after the first loop t is in no queue -/
theorem pd_it1 {T t : Nat} {q : Nat → Nat → Nat} {m : Nat → Nat → Int32} : ∀ j, ∀ l, l < j → (pd_it pd_c1 T t q m j).1 l t < 2 := by
  intro j
  induction j with
  | zero => intro l hl; omega
  | succ j ih =>
    intro l hl
    by_cases z : pd_c1 ((pd_it pd_c1 T t q m j).1 j t) = true
    · rw [pd_it_t z]
      by_cases e : l = j
      · rw [e]
        show pd_rem T _ j t j t < 2
        rw [pd_rem_t]; omega
      · show pd_rem T _ j t l t < 2
        rw [pd_rem_ne _ _ _ _ _ e]
        exact ih l (by omega)
    · rw [pd_it_f z]
      by_cases e : l = j
      · rw [e]
        rw [pd_c1_iff] at z
        omega
      · exact ih l (by omega)
/-- after the second it has no place at all -/
theorem pd_it2 {T t L : Nat} {q : Nat → Nat → Nat} {m : Nat → Nat → Int32} (h : ∀ l, l < L → q l t < 2) : ∀ j, j ≤ L → ∀ l, l < L → (pd_it pd_c2 T t q m j).1 l t < 2 ∧ (l < j → (pd_it pd_c2 T t q m j).1 l t = 0) := by
  intro j
  induction j with
  | zero => intro _ l hl; exact ⟨h l hl, fun z => by omega⟩
  | succ j ih =>
    intro hj l hl
    have i1 := ih (by omega) l hl
    by_cases z : pd_c2 ((pd_it pd_c2 T t q m j).1 j t) = true
    · rw [pd_it_t z]
      by_cases e : l = j
      · rw [e]
        show pd_rem T _ j t j t < 2 ∧ (_ → pd_rem T _ j t j t = 0)
        rw [pd_rem_t]
        exact ⟨by omega, fun _ => rfl⟩
      · show pd_rem T _ j t l t < 2 ∧ (_ → pd_rem T _ j t l t = 0)
        rw [pd_rem_ne _ _ _ _ _ e]
        exact ⟨i1.1, fun y => i1.2 (by omega)⟩
    · rw [pd_it_f z]
      refine ⟨i1.1, fun y => ?_⟩
      by_cases e : l = j
      · rw [e] at i1
        rw [pd_c2_iff] at z
        rw [e]
        omega
      · exact i1.2 (by omega)
/-- all that a transaction's end does to places and marks -/
def pd_end (T L t : Nat) (q : Nat → Nat → Nat) (m : Nat → Nat → Int32) : (Nat → Nat → Nat) × (Nat → Nat → Int32) :=
  pd_it pd_c2 T t (pd_it pd_c1 T t q m L).1 (pd_it pd_c1 T t q m L).2 L
theorem pd_end_0 {T L t : Nat} {q : Nat → Nat → Nat} {m : Nat → Nat → Int32} (l : Nat) (hl : l < L) : (pd_end T L t q m).1 l t = 0 :=
  (pd_it2 (fun l hl => pd_it1 L l hl) L (Nat.le_refl L) l hl).2 hl
/-! marks -/
def pd_mk (p : Nat → Nat → Bool) (m : Nat → Nat → Int32) : Nat → Nat → Int32 := fun a b => if p a b = true then 1 else m a b
theorem pd_mk_s {p p' : Nat → Nat → Bool} {m : Nat → Nat → Int32} {l t : Nat} (h : ∀ a b, p' a b = true ↔ (a = l ∧ b = t) ∨ p a b = true) : pd_set (pd_mk p m) l t 1 = pd_mk p' m := by
  funext a b
  show (if a = l ∧ b = t then 1 else if p a b = true then 1 else m a b) = (if p' a b = true then 1 else m a b)
  have h1 := h a b
  by_cases c : a = l ∧ b = t
  · rw [if_pos c, if_pos (h1.mpr (Or.inl c))]
  · rw [if_neg c]
    by_cases d : p a b = true
    · rw [if_pos d, if_pos (h1.mpr (Or.inr d))]
    · rw [if_neg d, if_neg (fun z => (h1.mp z).elim c d)]
theorem pd_mk_c {p p' : Nat → Nat → Bool} {m : Nat → Nat → Int32} (h : ∀ a b, p' a b = true ↔ p a b = true) : pd_mk p m = pd_mk p' m := by
  funext a b
  show (if p a b = true then 1 else m a b) = (if p' a b = true then 1 else m a b)
  have h1 := h a b
  by_cases d : p a b = true
  · rw [if_pos d, if_pos (h1.mpr d)]
  · rw [if_neg d, if_neg (fun z => d (h1.mp z))]
theorem pd_mk_0 (m : Nat → Nat → Int32) : pd_mk (fun _ _ => false) m = m := rfl
theorem pd_mk_m {p : Nat → Nat → Bool} {m : Nat → Nat → Int32} {l t : Nat} (h : pd_mk p m l t ≠ 0) : m l t ≠ 0 ∨ p l t = true := by
  by_cases c : p l t = true
  · exact Or.inr c
  · exact Or.inl (fun z => h (by show (if p l t = true then 1 else m l t) = 0; rw [if_neg c, z]))
