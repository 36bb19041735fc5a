/-! closest: X and Y go through the same pairs in another order; both keep the least distance so far -/
theorem nt_tosub {x y : Int32} (hx : nt_ok x) (hy : nt_ok y) : (x - y).toInt = x.toInt - y.toInt := by
  unfold nt_ok at hx hy
  rw [Int32.toInt_sub]
  apply Int.bmod_eq_of_le <;> omega
theorem nt_sqb {z : Int} (h1 : -200 ≤ z) (h2 : z ≤ 200) : 0 ≤ z * z ∧ z * z ≤ 40000 := by
  have h : z.natAbs ≤ 200 := by omega
  have m := Nat.mul_le_mul h h
  rw [← Int.natAbs_mul_self]
  omega
theorem nt_sqI {x y : Int32} (hx : nt_ok x) (hy : nt_ok y) : 0 ≤ ((x - y) * (x - y)).toInt ∧ ((x - y) * (x - y)).toInt ≤ 40000 := by
  have b : 0 ≤ (x.toInt - y.toInt) * (x.toInt - y.toInt) ∧ (x.toInt - y.toInt) * (x.toInt - y.toInt) ≤ 40000 := by
    unfold nt_ok at hx hy
    exact nt_sqb (by omega) (by omega)
  rw [Int32.toInt_mul, nt_tosub hx hy, Int.bmod_eq_of_le (by omega) (by omega)]
  exact b
def nt_T (tk : Nat → Int32) (a b : Nat) : Prop := ¬ tk a = 0 ∧ ¬ tk b = 0
def nt_D (xs ys : Nat → Int32) (a b : Nat) : Int32 := nt_d xs ys a (xs b) (ys b)
theorem nt_Dpos {xs ys : Nat → Int32} (ok : ∀ i, nt_ok (xs i) ∧ nt_ok (ys i)) (a b : Nat) : 0 ≤ (nt_D xs ys a b).toInt := by
  have h1 := nt_sqI (ok a).1 (ok b).1
  have h2 := nt_sqI (ok a).2 (ok b).2
  unfold nt_D nt_d
  rw [Int32.toInt_add, Int.bmod_eq_of_le (by omega) (by omega)]
  omega
theorem nt_Dne {xs ys : Nat → Int32} (ok : ∀ i, nt_ok (xs i) ∧ nt_ok (ys i)) (a b : Nat) : ¬ nt_D xs ys a b = -3 := by
  intro h
  have p := nt_Dpos ok a b
  rw [h] at p
  exact absurd p (by decide)
def nt_min (tk xs ys : Nat → Int32) (S : Nat → Nat → Prop) (L : Int32) : Prop :=
  (L = -3 ∧ ∀ a b, S a b → ¬ nt_T tk a b) ∨ ((∃ a b, S a b ∧ nt_T tk a b ∧ L = nt_D xs ys a b) ∧ ∀ a b, S a b → nt_T tk a b → L ≤ nt_D xs ys a b)
theorem nt_min_u {tk xs ys : Nat → Int32} (ok : ∀ i, nt_ok (xs i) ∧ nt_ok (ys i)) {S : Nat → Nat → Prop} {L M : Int32} (h : nt_min tk xs ys S L) (g : nt_min tk xs ys S M) : L = M := by
  rcases h with ⟨h1, h2⟩ | ⟨⟨a, b, h1, h2, h3⟩, h4⟩
  · rcases g with ⟨g1, g2⟩ | ⟨⟨a, b, g1, g2, g3⟩, g4⟩
    · rw [h1, g1]
    · exact absurd g2 (h2 a b g1)
  · rcases g with ⟨g1, g2⟩ | ⟨⟨a', b', g1, g2, g3⟩, g4⟩
    · exact absurd h2 (g2 a b h1)
    · refine Int32.le_antisymm ?_ ?_
      · rw [g3]; exact h4 a' b' g1 g2
      · rw [h3]; exact g4 a b h1 h2
theorem nt_min_c {tk xs ys : Nat → Int32} {S S' : Nat → Nat → Prop} {L : Int32} (hs : ∀ a b, S' a b ↔ S a b) (h : nt_min tk xs ys S L) : nt_min tk xs ys S' L := by
  rcases h with ⟨h1, h2⟩ | ⟨⟨a, b, h1, h2, h3⟩, h4⟩
  · exact Or.inl ⟨h1, fun a b s => h2 a b ((hs a b).mp s)⟩
  · exact Or.inr ⟨⟨a, b, (hs a b).mpr h1, h2, h3⟩, fun a b s => h4 a b ((hs a b).mp s)⟩
theorem nt_min_n {tk xs ys : Nat → Int32} {S S' : Nat → Nat → Prop} {L : Int32} {p q : Nat} (hs : ∀ a b, S' a b ↔ S a b ∨ (a = p ∧ b = q)) (t : ¬ nt_T tk p q) (h : nt_min tk xs ys S L) : nt_min tk xs ys S' L := by
  rcases h with ⟨h1, h2⟩ | ⟨⟨a, b, h1, h2, h3⟩, h4⟩
  · refine Or.inl ⟨h1, fun a b s => ?_⟩
    rcases (hs a b).mp s with s | ⟨rfl, rfl⟩
    · exact h2 a b s
    · exact t
  · refine Or.inr ⟨⟨a, b, (hs a b).mpr (Or.inl h1), h2, h3⟩, fun a b s r => ?_⟩
    rcases (hs a b).mp s with s | ⟨rfl, rfl⟩
    · exact h4 a b s r
    · exact absurd r t
theorem nt_min_0 {tk xs ys : Nat → Int32} (ok : ∀ i, nt_ok (xs i) ∧ nt_ok (ys i)) {S S' : Nat → Nat → Prop} {L : Int32} {p q : Nat} (hs : ∀ a b, S' a b ↔ S a b ∨ (a = p ∧ b = q)) (t : nt_T tk p q) (e : L = -3) (h : nt_min tk xs ys S L) : nt_min tk xs ys S' (nt_D xs ys p q) := by
  rcases h with ⟨h1, h2⟩ | ⟨⟨a, b, h1, h2, h3⟩, h4⟩
  · refine Or.inr ⟨⟨p, q, (hs p q).mpr (Or.inr ⟨rfl, rfl⟩), t, rfl⟩, fun a b s r => ?_⟩
    rcases (hs a b).mp s with s | ⟨rfl, rfl⟩
    · exact absurd r (h2 a b s)
    · exact Int32.le_refl _
  · exact absurd (h3.symm.trans e) (nt_Dne ok a b)
theorem nt_min_k {tk xs ys : Nat → Int32} {S S' : Nat → Nat → Prop} {L : Int32} {p q : Nat} (hs : ∀ a b, S' a b ↔ S a b ∨ (a = p ∧ b = q)) (e : ¬ L = -3) (l : L ≤ nt_D xs ys p q) (h : nt_min tk xs ys S L) : nt_min tk xs ys S' L := by
  rcases h with ⟨h1, h2⟩ | ⟨⟨a, b, h1, h2, h3⟩, h4⟩
  · exact absurd h1 e
  · refine Or.inr ⟨⟨a, b, (hs a b).mpr (Or.inl h1), h2, h3⟩, fun a b s r => ?_⟩
    rcases (hs a b).mp s with s | ⟨rfl, rfl⟩
    · exact h4 a b s r
    · exact l
theorem nt_min_l {tk xs ys : Nat → Int32} {S S' : Nat → Nat → Prop} {L : Int32} {p q : Nat} (hs : ∀ a b, S' a b ↔ S a b ∨ (a = p ∧ b = q)) (t : nt_T tk p q) (e : ¬ L = -3) (l : ¬ L ≤ nt_D xs ys p q) (h : nt_min tk xs ys S L) : nt_min tk xs ys S' (nt_D xs ys p q) := by
  rcases h with ⟨h1, h2⟩ | ⟨⟨a, b, h1, h2, h3⟩, h4⟩
  · exact absurd h1 e
  · refine Or.inr ⟨⟨p, q, (hs p q).mpr (Or.inr ⟨rfl, rfl⟩), t, rfl⟩, fun a b s r => ?_⟩
    rcases (hs a b).mp s with s | ⟨rfl, rfl⟩
    · exact Int32.le_trans (Int32.le_of_lt (Int32.not_le.mp l)) (h4 a b s r)
    · exact Int32.le_refl _
def nt_SX (i j a b : Nat) : Prop := a < b ∧ b < 24 ∧ (a < i ∨ a = i ∧ b < j)
def nt_SY (i j a b : Nat) : Prop := a < b ∧ b < 24 ∧ (b < i ∨ b = i ∧ a < j)
def nt_SA (a b : Nat) : Prop := a < b ∧ b < 24
theorem nt_SXs {i j : Nat} (h : i < j) (hj : j < 24) (a b : Nat) : nt_SX i (j + 1) a b ↔ nt_SX i j a b ∨ (a = i ∧ b = j) := by
  unfold nt_SX; omega
theorem nt_SXe {i : Nat} (a b : Nat) : nt_SX (i + 1) (i + 1 + 1) a b ↔ nt_SX i 24 a b := by
  unfold nt_SX; omega
theorem nt_SXa (a b : Nat) : nt_SA a b ↔ nt_SX 24 25 a b := by
  unfold nt_SA nt_SX; omega
theorem nt_SYs {i j : Nat} (h : j < i) (hi : i < 24) (a b : Nat) : nt_SY i (j + 1) a b ↔ nt_SY i j a b ∨ (a = j ∧ b = i) := by
  unfold nt_SY; omega
theorem nt_SYe {i : Nat} (a b : Nat) : nt_SY (i + 1) 0 a b ↔ nt_SY i i a b := by
  unfold nt_SY; omega
theorem nt_SYa (a b : Nat) : nt_SA a b ↔ nt_SY 24 0 a b := by
  unfold nt_SA nt_SY; omega
theorem nt_cX1 {xs ys tk dn cl : Nat → Int32} (ok : ∀ i, nt_ok (xs i) ∧ nt_ok (ys i)) {c : Int32} {post : Int32 → Prop} {J : Int32 → Int32 → Prop} {i : Nat} (hi : i < 24) (hJ : ∀ L, nt_min tk xs ys (nt_SX i 24) L → J L (nI (i + 1))) : ∀ d j : Nat, j + d = 24 → i < j → ∀ L : Int32, nt_min tk xs ys (nt_SX i j) L → wX_closest_15 post J (nI i) c xs ys tk dn cl (d + 1) L (nI j) := by
  intro d
  induction d with
  | zero =>
    intro j hj _ L h
    have e : j = 24 := by omega
    subst e
    exact br_t nt_end (nm_r (nI_1 i) (hJ L h))
  | succ d ih =>
    intro j hj hij L h
    have hl : j < 24 := by omega
    have hs := nt_SXs hij hl
    by_cases z1 : tk i = 0
    · exact br_f (nt_ge hl) ⟨nt_in hi, br_t (by rw [nt_cl hi]; exact z1) (nm_r (nI_1 j) (ih (j + 1) (by omega) (by omega) L (nt_min_n hs (fun t => t.1 z1) h)))⟩
    · by_cases z2 : tk j = 0
      · exact br_f (nt_ge hl) ⟨nt_in hi, br_f (by rw [nt_cl hi]; exact z1) ⟨nt_in hl, br_t (by rw [nt_cl hl]; exact z2) (nm_r (nI_1 j) (ih (j + 1) (by omega) (by omega) L (nt_min_n hs (fun t => t.2 z2) h)))⟩⟩
      · refine br_f (nt_ge hl) ⟨nt_in hi, br_f (by rw [nt_cl hi]; exact z1) ⟨nt_in hl, br_f (by rw [nt_cl hl]; exact z2) ⟨nt_in hl, nt_in hl, ?_⟩⟩⟩
        rw [nt_cl hl]
        refine nt_dX hi ?_
        by_cases e : L = -3
        · exact br_t e (nm_r (nI_1 j) (ih (j + 1) (by omega) (by omega) _ (nt_min_0 ok hs ⟨z1, z2⟩ e h)))
        · by_cases l : L ≤ nt_D xs ys i j
          · exact br_f e (br_t l (nm_r (nI_1 j) (ih (j + 1) (by omega) (by omega) _ (nt_min_k hs e l h))))
          · exact br_f e (br_f l (nm_r (nI_1 j) (ih (j + 1) (by omega) (by omega) _ (nt_min_l hs ⟨z1, z2⟩ e l h))))
theorem nt_cX2 {xs ys tk dn cl : Nat → Int32} (ok : ∀ i, nt_ok (xs i) ∧ nt_ok (ys i)) {c : Int32} {post : Int32 → Prop} (hp : ∀ L, nt_min tk xs ys nt_SA L → post L) : ∀ d i : Nat, i + d = 24 → ∀ L : Int32, nt_min tk xs ys (nt_SX i (i + 1)) L → wX_closest_5 post c xs ys tk dn cl (d + 1) L (nI i) := by
  intro d
  induction d with
  | zero =>
    intro i hi L h
    have e : i = 24 := by omega
    subst e
    exact br_t nt_end (hp L (nt_min_c nt_SXa h))
  | succ d ih =>
    intro i hi L h
    have hl : i < 24 := by omega
    exact br_f (nt_ge hl) (nm_r (nI_1 i) ⟨d + 1, nt_cX1 ok hl (fun M hM => ih (i + 1) (by omega) M (nt_min_c nt_SXe hM)) d (i + 1) (by omega) (by omega) L h⟩)
theorem nt_cY1 {xs ys tk dn gr : Nat → Int32} (ok : ∀ i, nt_ok (xs i) ∧ nt_ok (ys i)) {post : Int32 → Prop} {J : Int32 → Int32 → Prop} {i : Nat} (hi : i < 24) (hJ : ∀ L, nt_min tk xs ys (nt_SY i i) L → J L (nI (i + 1))) : ∀ d j : Nat, j + d = i → ∀ L : Int32, nt_min tk xs ys (nt_SY i j) L → wY_closest_13 post J (nI i) tk xs ys dn gr (d + 1) L (nI j) := by
  intro d
  induction d with
  | zero =>
    intro j hj L h
    have e : j = i := by omega
    subst e
    exact br_t (Int32.le_refl _) (nm_r (nI_1 j) (hJ L h))
  | succ d ih =>
    intro j hj L h
    have hl : j < 24 := by omega
    have hs := nt_SYs (by omega : j < i) hi
    refine br_f (nI_ge (by omega) (by omega)) ⟨nt_in hl, nt_in hl, ?_⟩
    rw [nt_cl hl]
    refine nt_dY hi ?_
    rw [nt_dsym]
    by_cases z1 : tk i = 0
    · exact ⟨nt_in hi, br_t (by rw [nt_cl hi]; exact z1) (nm_r (nI_1 j) (ih (j + 1) (by omega) L (nt_min_n hs (fun t => t.2 z1) h)))⟩
    · by_cases z2 : tk j = 0
      · exact ⟨nt_in hi, br_f (by rw [nt_cl hi]; exact z1) ⟨nt_in hl, br_t z2 (nm_r (nI_1 j) (ih (j + 1) (by omega) L (nt_min_n hs (fun t => t.1 z2) h)))⟩⟩
      · refine ⟨nt_in hi, br_f (by rw [nt_cl hi]; exact z1) ⟨nt_in hl, br_f z2 ?_⟩⟩
        by_cases e : L = -3
        · exact br_t e (nm_r (nI_1 j) (ih (j + 1) (by omega) _ (nt_min_0 ok hs ⟨z2, z1⟩ e h)))
        · by_cases l : L ≤ nt_D xs ys j i
          · exact br_f e (br_t l (nm_r (nI_1 j) (ih (j + 1) (by omega) _ (nt_min_k hs e l h))))
          · exact br_f e (br_f l (nm_r (nI_1 j) (ih (j + 1) (by omega) _ (nt_min_l hs ⟨z2, z1⟩ e l h))))
theorem nt_cY2 {xs ys tk dn gr : Nat → Int32} (ok : ∀ i, nt_ok (xs i) ∧ nt_ok (ys i)) {post : Int32 → Prop} (hp : ∀ L, nt_min tk xs ys nt_SA L → post L) : ∀ d i : Nat, i + d = 24 → ∀ L : Int32, nt_min tk xs ys (nt_SY i 0) L → wY_closest_5 post tk xs ys dn gr (d + 1) L (nI i) := by
  intro d
  induction d with
  | zero =>
    intro i hi L h
    have e : i = 24 := by omega
    subst e
    exact br_t nt_end (hp L (nt_min_c nt_SYa h))
  | succ d ih =>
    intro i hi L h
    have hl : i < 24 := by omega
    exact br_f (nt_ge hl) ⟨i + 1, nt_cY1 ok hl (fun M hM => ih (i + 1) (by omega) M (nt_min_c nt_SYe hM)) i 0 (by omega) L h⟩
theorem i_vc_closest {k : Nat} {u : SX} {v : SY} (I : i_Rel k u v) (hk : k + 5 ≤ 2560) : wpX_closest (fun r => wpY_closest (fun r' => r' = r ∧ i_Rel (k + 5) u v) v) u := by
  obtain ⟨xs, ys, tk, dn, cl, gr, rfl, rfl, ok⟩ := I
  have h1 : nt_min tk xs ys (nt_SX 0 1) (-3) := Or.inl ⟨rfl, fun a b s => by unfold nt_SX at s; omega⟩
  have h2 : nt_min tk xs ys (nt_SY 0 0) (-3) := Or.inl ⟨rfl, fun a b s => by unfold nt_SY at s; omega⟩
  refine ⟨25, nt_cX2 ok (fun L hL => ?_) 24 0 rfl (-3) h1⟩
  exact ⟨25, nt_cY2 ok (fun M hM => ⟨nt_min_u ok hM hL, xs, ys, tk, dn, cl, gr, rfl, rfl, ok⟩) 24 0 rfl (-3) h2⟩
