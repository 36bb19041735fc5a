/-! clusters, the mathematics: labels g with g p ≤ p that no function constant along the edges can tell from the places themselves -/
def nt_inv (E : Nat → Nat → Prop) (f : Nat → Nat) : Prop := ∀ p q, E p q → f p = f q
def nt_Cn (E : Nat → Nat → Prop) (g : Nat → Nat) : Prop := (∀ p, g p ≤ p) ∧ ∀ f : Nat → Nat, nt_inv E f → ∀ p, f (g p) = f p
theorem nt_Cid (E : Nat → Nat → Prop) : nt_Cn E (fun i => i) := ⟨fun p => Nat.le_refl p, fun _ _ _ => rfl⟩
/-- good labels lie below all others -/
theorem nt_low {E : Nat → Nat → Prop} {c g : Nat → Nat} (hc : nt_Cn E c) (ic : nt_inv E c) (hg : nt_Cn E g) (p : Nat) : c p ≤ g p := by
  have h := hg.2 c ic p
  have l := hc.1 (g p)
  omega
def nt_bad (g c : Nat → Nat) : Nat → Nat
  | 0 => 0
  | n + 1 => nt_bad g c n + (if g n = c n then 0 else 1)
theorem nt_bad_t {g c : Nat → Nat} {n : Nat} (h : g n = c n) : nt_bad g c (n + 1) = nt_bad g c n := by
  show nt_bad g c n + (if g n = c n then 0 else 1) = _
  rw [if_pos h]; rfl
theorem nt_bad_f {g c : Nat → Nat} {n : Nat} (h : ¬ g n = c n) : nt_bad g c (n + 1) = nt_bad g c n + 1 := by
  show nt_bad g c n + (if g n = c n then 0 else 1) = _
  rw [if_neg h]
theorem nt_bad_le (g c : Nat → Nat) (n : Nat) : nt_bad g c n ≤ n := by
  induction n with
  | zero => exact Nat.le_refl _
  | succ n ih =>
    by_cases h : g n = c n
    · rw [nt_bad_t h]; omega
    · rw [nt_bad_f h]; omega
theorem nt_bad_0 {g c : Nat → Nat} {n : Nat} (h : nt_bad g c n = 0) : ∀ p, p < n → g p = c p := by
  induction n with
  | zero => intro p hp; omega
  | succ n ih =>
    intro p hp
    by_cases e : g n = c n
    · rw [nt_bad_t e] at h
      by_cases ep : p = n
      · rw [ep]; exact e
      · exact ih h p (by omega)
    · rw [nt_bad_f e] at h
      omega
theorem nt_bad_m {g g' c : Nat → Nat} (m : ∀ p, g p = c p → g' p = c p) (n : Nat) : nt_bad g' c n ≤ nt_bad g c n := by
  induction n with
  | zero => exact Nat.le_refl _
  | succ n ih =>
    by_cases e : g n = c n
    · rw [nt_bad_t e, nt_bad_t (m n e)]; exact ih
    · rw [nt_bad_f e]
      by_cases e' : g' n = c n
      · rw [nt_bad_t e']; omega
      · rw [nt_bad_f e']; omega
theorem nt_bad_lt {g g' c : Nat → Nat} (m : ∀ p, g p = c p → g' p = c p) {a : Nat} (ha : ¬ g a = c a) (ha' : g' a = c a) {n : Nat} (hn : a < n) : nt_bad g' c n < nt_bad g c n := by
  induction n with
  | zero => omega
  | succ n ih =>
    by_cases ea : a = n
    · subst ea
      rw [nt_bad_f ha, nt_bad_t ha']
      have := nt_bad_m m a
      omega
    · have i := ih (by omega)
      by_cases e : g n = c n
      · rw [nt_bad_t e, nt_bad_t (m n e)]; exact i
      · rw [nt_bad_f e]
        by_cases e' : g' n = c n
        · rw [nt_bad_t e']; omega
        · rw [nt_bad_f e']; omega
/-- as long as a label is wrong, an edge leads from a wrong one to a right one -/
theorem nt_cross {E : Nat → Nat → Prop} (sy : ∀ p q, E p q → E q p) {c g : Nat → Nat} (hc : nt_Cn E c) (ic : nt_inv E c) (hg : nt_Cn E g) {p : Nat} (hne : ¬ g p = c p) : ∃ a b, E a b ∧ ¬ g a = c a ∧ g b = c b := by
  refine Classical.byContradiction fun no => ?_
  have hf : nt_inv E (fun x => if g x = c x then 1 else 0) := by
    intro a b e
    show (if g a = c a then 1 else 0) = (if g b = c b then 1 else 0)
    by_cases h1 : g a = c a
    · by_cases h2 : g b = c b
      · rw [if_pos h1, if_pos h2]
      · exact absurd ⟨b, a, sy a b e, h2, h1⟩ no
    · by_cases h2 : g b = c b
      · exact absurd ⟨a, b, e, h1, h2⟩ no
      · rw [if_neg h1, if_neg h2]
  have k : (if g (c p) = c (c p) then 1 else 0) = (if g p = c p then 1 else 0) := hc.2 _ hf p
  have e1 : c (c p) = c p := hc.2 c ic p
  have l1 := nt_low hc ic hg (c p)
  have l2 := hg.1 (c p)
  have e2 : g (c p) = c (c p) := by omega
  rw [if_pos e2, if_neg hne] at k
  exact absurd k (by decide)
/-- what a round of Y does -/
def nt_rd (E : Nat → Nat → Prop) (g g' : Nat → Nat) : Prop := (∀ p, g' p ≤ g p) ∧ nt_Cn E g' ∧ ∀ p q, E p q → g' p ≤ g q
theorem nt_rnd {E : Nat → Nat → Prop} (sy : ∀ p q, E p q → E q p) (lt : ∀ p q, E p q → p < 24) {g g' c : Nat → Nat} (hg : nt_Cn E g) (R : nt_rd E g g') (hc : nt_Cn E c) (ic : nt_inv E c) {n : Nat} (hn : nt_bad g c 24 ≤ n + 1) : nt_bad g' c 24 ≤ n := by
  have m : ∀ p, g p = c p → g' p = c p := by
    intro p h
    have l1 := R.1 p
    have l2 := nt_low hc ic R.2.1 p
    omega
  by_cases z : nt_bad g c 24 = 0
  · have := nt_bad_m m 24
    omega
  · by_cases all : ∀ p, p < 24 → g p = c p
    · exfalso
      refine z ?_
      have k : ∀ n, n ≤ 24 → nt_bad g c n = 0 := by
        intro n
        induction n with
        | zero => intro _; rfl
        | succ n ih => intro h; rw [nt_bad_t (all n (by omega)), ih (by omega)]
      exact k 24 (Nat.le_refl _)
    · have ⟨p, hp⟩ := Classical.not_forall.mp all
      have hne : ¬ g p = c p := fun e => hp (fun _ => e)
      obtain ⟨a, b, e, ha, hb⟩ := nt_cross sy hc ic hg hne
      have l1 := R.2.2 a b e
      have l2 := nt_low hc ic R.2.1 a
      have l3 := ic a b e
      have := nt_bad_lt m ha (by omega : g' a = c a) (lt a b e)
      omega
/-- what joining two labels does -/
theorem nt_join {E : Nat → Nat → Prop} {g : Nat → Nat} (hg : nt_Cn E g) {i j s l : Nat} (e : E i j) (sl : s ≤ l) (h : s = g i ∧ l = g j ∨ s = g j ∧ l = g i) : nt_Cn E (fun p => if g p = l then s else g p) ∧ (if g i = l then s else g i) = (if g j = l then s else g j) := by
  refine ⟨⟨fun p => ?_, fun f hf p => ?_⟩, ?_⟩
  · show (if g p = l then s else g p) ≤ p
    have := hg.1 p
    by_cases z : g p = l
    · rw [if_pos z]; omega
    · rw [if_neg z]; omega
  · show f (if g p = l then s else g p) = f p
    have k := hg.2 f hf p
    by_cases z : g p = l
    · rw [if_pos z]
      have ki := hg.2 f hf i
      have kj := hg.2 f hf j
      have kij := hf i j e
      rcases h with ⟨rfl, h2⟩ | ⟨rfl, h2⟩
      · rw [← h2, ← z] at kj
        omega
      · rw [← h2, ← z] at ki
        omega
    · rw [if_neg z]; exact k
  · rcases h with ⟨h1, h2⟩ | ⟨h1, h2⟩
    · by_cases z : g i = l
      · rw [if_pos z, if_pos h2.symm]
      · rw [if_neg z, if_pos h2.symm]; exact h1.symm
    · by_cases z : g j = l
      · rw [if_pos z, if_pos h2.symm]
      · rw [if_neg z, if_pos h2.symm]; exact h1
