/-! counting, and the least closed set -/
def pd_cnt (f : Nat → Bool) : Nat → Nat
  | 0 => 0
  | n + 1 => pd_cnt f n + (if f n = true then 1 else 0)
theorem pd_cnt_le (f : Nat → Bool) : ∀ n, pd_cnt f n ≤ n := by
  intro n
  induction n with
  | zero => exact Nat.le_refl 0
  | succ n ih =>
    show pd_cnt f n + (if f n = true then 1 else 0) ≤ n + 1
    split <;> omega
theorem pd_cnt_mono (f g : Nat → Bool) : ∀ n, (∀ t, t < n → f t = true → g t = true) → pd_cnt f n ≤ pd_cnt g n := by
  intro n
  induction n with
  | zero => intro _; exact Nat.le_refl 0
  | succ n ih =>
    intro h
    have h1 := ih (fun t ht => h t (by omega))
    have h2 := h n (by omega)
    show pd_cnt f n + (if f n = true then 1 else 0) ≤ pd_cnt g n + (if g n = true then 1 else 0)
    by_cases hf : f n = true
    · rw [if_pos hf, if_pos (h2 hf)] <;> omega
    · rw [if_neg hf] <;> omega
theorem pd_cnt_congr (f g : Nat → Bool) (n : Nat) (h : ∀ t, t < n → f t = g t) : pd_cnt f n = pd_cnt g n :=
  Nat.le_antisymm (pd_cnt_mono f g n (fun t ht e => by rw [← h t ht]; exact e)) (pd_cnt_mono g f n (fun t ht e => by rw [h t ht]; exact e))
theorem pd_cnt_lt (f g : Nat → Bool) : ∀ n, (∀ t, t < n → f t = true → g t = true) → ∀ u, u < n → f u = false → g u = true → pd_cnt f n < pd_cnt g n := by
  intro n
  induction n with
  | zero => intro _ u hu; omega
  | succ n ih =>
    intro h u hu hf hg
    have hm := pd_cnt_mono f g n (fun t ht => h t (by omega))
    show pd_cnt f n + (if f n = true then 1 else 0) < pd_cnt g n + (if g n = true then 1 else 0)
    by_cases e : u = n
    · rw [← e, if_neg (by rw [hf]; decide : ¬ f u = true), if_pos hg, e] <;> omega
    · have h1 := ih (fun t ht => h t (by omega)) u (by omega) hf hg
      have h2 := h n (by omega)
      by_cases hf : f n = true
      · rw [if_pos hf, if_pos (h2 hf)] <;> omega
      · rw [if_neg hf] <;> omega
theorem pd_cnt_one (f g : Nat → Bool) : ∀ n u, u < n → f u = false → g u = true → (∀ t, t < n → t ≠ u → f t = g t) → pd_cnt g n = pd_cnt f n + 1 := by
  intro n
  induction n with
  | zero => intro u hu; omega
  | succ n ih =>
    intro u hu hf hg h
    show pd_cnt g n + (if g n = true then 1 else 0) = pd_cnt f n + (if f n = true then 1 else 0) + 1
    by_cases e : u = n
    · have h1 := pd_cnt_congr f g n (fun t ht => h t (by omega) (by omega))
      rw [← e, if_neg (by rw [hf]; decide : ¬ f u = true), if_pos hg, e, h1] <;> omega
    · have h1 := ih u (by omega) hf hg (fun t ht => h t (by omega))
      rw [h1, h n (by omega) (by omega)] <;> omega
theorem pd_cnt_full (f : Nat → Bool) : ∀ n, n ≤ pd_cnt f n → ∀ t, t < n → f t = true := by
  intro n
  induction n with
  | zero => intro _ t ht; omega
  | succ n ih =>
    intro h t ht
    have hl := pd_cnt_le f n
    have h' : n + 1 ≤ pd_cnt f n + (if f n = true then 1 else 0) := h
    by_cases hf : f n = true
    · rw [if_pos hf] at h'
      by_cases e : t = n
      · rw [e]; exact hf
      · exact ih (by omega) t (by omega)
    · rw [if_neg hf] at h'; omega
theorem pd_cnt_pos (f : Nat → Bool) (n u : Nat) (hu : u < n) (h : f u = true) : 1 ≤ pd_cnt f n := by
  have h1 := pd_cnt_lt (fun _ => false) f n (fun _ _ z => by simp at z) u hu rfl h
  omega
theorem pd_cnt_zero (f : Nat → Bool) (n : Nat) (h : pd_cnt f n = 0) (t : Nat) (ht : t < n) : f t = false := by
  cases e : f t with
  | false => rfl
  | true => have := pd_cnt_pos f n t ht e; omega
/-! the least set that holds t's targets and is closed under the edges, within P -/
def pd_cl (E : Nat → Nat → Prop) (P : Nat → Prop) (t : Nat) (S : Nat → Prop) : Prop :=
  (∀ x, E t x → P x → S x) ∧ (∀ w x, S w → E w x → P x → S x)
def pd_RC (E : Nat → Nat → Prop) (P : Nat → Prop) (t u : Nat) : Prop := ∀ S : Nat → Prop, pd_cl E P t S → S u
theorem pd_RC_cl (E : Nat → Nat → Prop) (P : Nat → Prop) (t : Nat) : pd_cl E P t (pd_RC E P t) :=
  ⟨fun x hx px _ hS => hS.1 x hx px, fun w x hw hx px S hS => hS.2 w x (hw S hS) hx px⟩
theorem pd_RC_congr {E : Nat → Nat → Prop} {P Q : Nat → Prop} (h : ∀ w x, E w x → (P x ↔ Q x)) (t u : Nat) : pd_RC E P t u ↔ pd_RC E Q t u :=
  ⟨fun H S hS => H S ⟨fun x hx px => hS.1 x hx ((h _ _ hx).mp px), fun w x hw hx px => hS.2 w x hw hx ((h _ _ hx).mp px)⟩,
   fun H S hS => H S ⟨fun x hx px => hS.1 x hx ((h _ _ hx).mpr px), fun w x hw hx px => hS.2 w x hw hx ((h _ _ hx).mpr px)⟩⟩
def pd_In (T : Nat) (f : Nat → Bool) : Nat → Prop := fun u => u < T ∧ f u = true
theorem pd_pass {T : Nat} {E : Nat → Nat → Prop} {P : Nat → Prop} {t : Nat} {f0 f1 : Nat → Bool} {k : Nat}
    (hE : ∀ a b, E a b → b < T)
    (h1 : ∀ u, u < T → f0 u = true → f1 u = true)
    (h2 : ∀ S : Nat → Prop, pd_cl E P t S → (∀ u, u < T → f0 u = true → S u) → ∀ u, u < T → f1 u = true → S u)
    (h3 : ∀ x, E t x → P x → f1 x = true)
    (h4 : ∀ w x, w < T → f0 w = true → E w x → P x → f1 x = true)
    (hI : pd_cl E P t (pd_In T f0) ∨ k ≤ pd_cnt f0 T) : pd_cl E P t (pd_In T f1) ∨ k + 1 ≤ pd_cnt f1 T := by
  by_cases hc : pd_cl E P t (pd_In T f0)
  · left
    have e : ∀ u, u < T → f1 u = true → f0 u = true := fun u hu h => (h2 _ hc (fun u hu h => ⟨hu, h⟩) u hu h).2
    exact ⟨fun x hx px => ⟨hE _ _ hx, h3 x hx px⟩, fun w x hw hx px => ⟨hE _ _ hx, h4 w x hw.1 (e w hw.1 hw.2) hx px⟩⟩
  · right
    have hk : k ≤ pd_cnt f0 T := hI.resolve_left hc
    by_cases hn : ∃ u, u < T ∧ f0 u = false ∧ f1 u = true
    · obtain ⟨u, hu, a, b⟩ := hn
      have := pd_cnt_lt f0 f1 T h1 u hu a b
      omega
    · exfalso
      apply hc
      have e : ∀ u, u < T → f1 u = true → f0 u = true := fun u hu h => by
        cases h0 : f0 u with
        | true => rfl
        | false => exact absurd ⟨u, hu, h0, h⟩ hn
      exact ⟨fun x hx px => ⟨hE _ _ hx, e x (hE _ _ hx) (h3 x hx px)⟩, fun w x hw hx px => ⟨hE _ _ hx, e x (hE _ _ hx) (h4 w x hw.1 hw.2 hx px)⟩⟩
theorem pd_passed {T : Nat} {E : Nat → Nat → Prop} {P : Nat → Prop} {t : Nat} {f : Nat → Bool} (hE : ∀ a b, E a b → b < T)
    (hI : pd_cl E P t (pd_In T f) ∨ T ≤ pd_cnt f T) : pd_cl E P t (pd_In T f) := by
  rcases hI with h | h
  · exact h
  · have hf := pd_cnt_full f T h
    exact ⟨fun x hx _ => ⟨hE _ _ hx, hf x (hE _ _ hx)⟩, fun w x _ hx _ => ⟨hE _ _ hx, hf x (hE _ _ hx)⟩⟩
theorem pd_RC_is {T : Nat} {E : Nat → Nat → Prop} {P : Nat → Prop} {t : Nat} {f : Nat → Bool} (h1 : pd_cl E P t (pd_In T f))
    (h2 : ∀ u, u < T → f u = true → pd_RC E P t u) (u : Nat) (hu : u < T) : f u = true ↔ pd_RC E P t u :=
  ⟨h2 u hu, fun h => (h _ h1).2⟩
