/-! the dense marks, in lockstep -/
theorem nt_dn0 (c : Int32) (xs ys tk cl : Nat → Int32) (r2 m : Int32) : ∀ d j : Nat, j + d = 24 → ∀ dn gr : Nat → Int32, (∀ i, i < j → gr i = nI i) → ∃ dn' : Nat → Int32, (∀ post : SX → Prop, post (c, xs, ys, tk, dn', cl) → wX_findDense_2 post r2 m c (d + 1) (nI j) xs ys tk dn cl) ∧ (∀ post : SY → Prop, (∀ gr' : Nat → Int32, (∀ i, i < 24 → gr' i = nI i) → ∃ n64 : Nat, wY_findGroups_64 post r2 n64 0 tk xs ys dn' gr') → wY_findGroups_2 post r2 m (d + 1) (nI j) tk xs ys dn gr) := by
  intro d
  induction d with
  | zero =>
    intro j hj dn gr hg
    have e : j = 24 := by omega
    subst e
    exact ⟨dn, fun _ hp => br_t nt_end hp, fun _ hp => br_t nt_end (hp gr hg)⟩
  | succ d ih =>
    intro j hj dn gr hg
    have hl : j < 24 := by omega
    have h := nt_ge hl
    have hi := nt_in hl
    have e0 : upd dn (nI j).toNatClampNeg (vp_nar .boolean 0) = upd dn j 0 := by rw [nt_cl hl, nt_b0]
    have e1 : upd dn (nI j).toNatClampNeg (vp_nar .boolean 1) = upd dn j 1 := by rw [nt_cl hl, nt_b1]
    have eg : upd gr (nI j).toNatClampNeg (nI j) = upd gr j (nI j) := by rw [nt_cl hl]
    have hg' : ∀ i, i < j + 1 → upd gr j (nI j) i = nI i := by
      intro i hi
      by_cases e : i = j
      · rw [e, nt_us]
      · rw [nt_un e]; exact hg i (by omega)
    by_cases z : tk (nI j).toNatClampNeg = 0
    · obtain ⟨dn', hX, hY⟩ := ih (j + 1) (by omega) (upd dn j 0) (upd gr j (nI j)) hg'
      exact ⟨dn', fun post hp => br_f h ⟨hi, br_t z ⟨hi, nm_r e0 (nm_r (nI_1 j) (hX post hp))⟩⟩, fun post hp => br_f h ⟨hi, br_t z ⟨hi, nm_r e0 ⟨hi, nm_r eg (nm_r (nI_1 j) (hY post hp))⟩⟩⟩⟩
    · obtain ⟨s, sX, sY⟩ := nt_near c xs ys tk dn cl gr (xs (nI j).toNatClampNeg) (ys (nI j).toNatClampNeg) r2
      by_cases w : s < m
      · obtain ⟨dn', hX, hY⟩ := ih (j + 1) (by omega) (upd dn j 0) (upd gr j (nI j)) hg'
        exact ⟨dn', fun post hp => br_f h ⟨hi, br_f z ⟨hi, hi, sX _ (br_t w ⟨hi, nm_r e0 (nm_r (nI_1 j) (hX post hp))⟩)⟩⟩, fun post hp => br_f h ⟨hi, br_f z ⟨hi, hi, sY _ (br_t w ⟨hi, nm_r e0 ⟨hi, nm_r eg (nm_r (nI_1 j) (hY post hp))⟩⟩)⟩⟩⟩
      · obtain ⟨dn', hX, hY⟩ := ih (j + 1) (by omega) (upd dn j 1) (upd gr j (nI j)) hg'
        exact ⟨dn', fun post hp => br_f h ⟨hi, br_f z ⟨hi, hi, sX _ (br_f w ⟨hi, nm_r e1 (nm_r (nI_1 j) (hX post hp))⟩)⟩⟩, fun post hp => br_f h ⟨hi, br_f z ⟨hi, hi, sY _ (br_f w ⟨hi, nm_r e1 ⟨hi, nm_r eg (nm_r (nI_1 j) (hY post hp))⟩⟩)⟩⟩⟩
theorem nt_dn (c : Int32) (xs ys tk dn cl gr : Nat → Int32) (r2 m : Int32) : ∃ dn' : Nat → Int32, (∀ post : SX → Prop, post (c, xs, ys, tk, dn', cl) → wpX_findDense post (c, xs, ys, tk, dn, cl) r2 m) ∧ (∀ post : SY → Prop, (∀ gr' : Nat → Int32, (∀ i, i < 24 → gr' i = nI i) → ∃ n64 : Nat, wY_findGroups_64 post r2 n64 0 tk xs ys dn' gr') → wpY_findGroups post (tk, xs, ys, dn, gr) r2 m) := by
  obtain ⟨dn', hX, hY⟩ := nt_dn0 c xs ys tk cl r2 m 24 0 rfl dn gr (fun i hi => absurd hi (Nat.not_lt_zero i))
  exact ⟨dn', fun post hp => ⟨25, hX post hp⟩, fun post hp => ⟨25, hY post hp⟩⟩

/-! edges and labels -/
def nt_E (xs ys dn : Nat → Int32) (r2 : Int32) (p q : Nat) : Prop := p < 24 ∧ q < 24 ∧ ¬ dn p = 0 ∧ ¬ dn q = 0 ∧ ¬ r2 < nt_D xs ys p q
theorem nt_Dsym (xs ys : Nat → Int32) (p q : Nat) : nt_D xs ys p q = nt_D xs ys q p := nt_dsym xs ys p q
theorem nt_Esy (xs ys dn : Nat → Int32) (r2 : Int32) (p q : Nat) (h : nt_E xs ys dn r2 p q) : nt_E xs ys dn r2 q p :=
  ⟨h.2.1, h.1, h.2.2.2.1, h.2.2.1, by rw [nt_Dsym]; exact h.2.2.2.2⟩
def nt_lab (a : Nat → Int32) (g : Nat → Nat) : Prop := ∀ i, i < 24 → a i = nI (g i)

/-! X: joining -/
theorem nt_jn {post : SX → Prop} {c : Int32} {xs ys tk dn a0 : Nat → Int32} {s l : Int32} (h : ∀ a' : Nat → Int32, (∀ i, i < 24 → a' i = if a0 i = l then s else a0 i) → post (c, xs, ys, tk, dn, a')) : ∀ d j : Nat, j + d = 24 → ∀ a : Nat → Int32, (∀ i, i < j → a i = if a0 i = l then s else a0 i) → (∀ i, j ≤ i → a i = a0 i) → wX_joinClusters_26 post s l c (d + 1) (nI j) xs ys tk dn a := by
  intro d
  induction d with
  | zero =>
    intro j hj a h1 _
    have e : j = 24 := by omega
    subst e
    exact br_t nt_end (h a h1)
  | succ d ih =>
    intro j hj a h1 h2
    have hl : j < 24 := by omega
    have ej := h2 j (Nat.le_refl j)
    by_cases z : a j = l
    · refine br_f (nt_ge hl) ⟨nt_in hl, br_t (by rw [nt_cl hl]; exact z) ⟨nt_in hl, nm_r (e' := upd a j s) (by rw [nt_cl hl]) (nm_r (nI_1 j) (ih (j + 1) (by omega) (upd a j s) (fun i hi => ?_) (fun i hi => ?_)))⟩⟩
      · by_cases e : i = j
        · rw [e, nt_us, ← ej, if_pos z]
        · rw [nt_un e]; exact h1 i (by omega)
      · rw [nt_un (by omega)]; exact h2 i (by omega)
    · refine br_f (nt_ge hl) ⟨nt_in hl, br_f (by rw [nt_cl hl]; exact z) (nm_r (nI_1 j) (ih (j + 1) (by omega) a (fun i hi => ?_) (fun i hi => h2 i (by omega))))⟩
      by_cases e : i = j
      · rw [e, ← ej, if_neg z]
      · exact h1 i (by omega)
theorem nt_jnX {post : SX → Prop} {c : Int32} {xs ys tk dn a0 : Nat → Int32} {x y : Nat} (hx : x < 24) (hy : y < 24) (h : ∀ s l : Nat, s ≤ l → (s = x ∧ l = y ∨ s = y ∧ l = x) → ∀ a' : Nat → Int32, (∀ i, i < 24 → a' i = if a0 i = nI l then nI s else a0 i) → post (c, xs, ys, tk, dn, a')) : wpX_joinClusters post (c, xs, ys, tk, dn, a0) (nI x) (nI y) := by
  by_cases e : y ≤ x
  · have e' : nI y ≤ nI x := nI_le e (by omega)
    exact br_t e' (br_t e' ⟨25, nt_jn (h y x e (Or.inr ⟨rfl, rfl⟩)) 24 0 rfl a0 (fun i hi => absurd hi (Nat.not_lt_zero i)) (fun _ _ => rfl)⟩)
  · have e' : ¬ nI y ≤ nI x := nI_ge (by omega) (by omega)
    exact br_f e' (br_f e' ⟨25, nt_jn (h x y (by omega) (Or.inl ⟨rfl, rfl⟩)) 24 0 rfl a0 (fun i hi => absurd hi (Nat.not_lt_zero i)) (fun _ _ => rfl)⟩)
theorem nt_labj {a a' : Nat → Int32} {g : Nat → Nat} (hg : ∀ p, g p ≤ p) (lab : nt_lab a g) {s l : Nat} (hl : l < 24) (h : ∀ i, i < 24 → a' i = if a i = nI l then nI s else a i) : nt_lab a' (fun p => if g p = l then s else g p) := by
  intro i hi
  show a' i = nI (if g i = l then s else g i)
  have b := hg i
  rw [h i hi, lab i hi]
  by_cases z : g i = l
  · rw [if_pos z, if_pos (by rw [z])]
  · rw [if_neg z, if_neg]
    intro e
    exact z ((nI_eq (by omega) (by omega)).mp e)
def nt_IX (xs ys dn : Nat → Int32) (r2 : Int32) (i j : Nat) (a : Nat → Int32) : Prop :=
  ∃ g : Nat → Nat, nt_lab a g ∧ nt_Cn (nt_E xs ys dn r2) g ∧ ∀ p q, nt_SX i j p q → nt_E xs ys dn r2 p q → g p = g q
theorem nt_IXn {xs ys dn : Nat → Int32} {r2 : Int32} {i j : Nat} {a : Nat → Int32} (hij : i < j) (hj : j < 24) (e : ¬ nt_E xs ys dn r2 i j) (h : nt_IX xs ys dn r2 i j a) : nt_IX xs ys dn r2 i (j + 1) a := by
  obtain ⟨g, h1, h2, h3⟩ := h
  refine ⟨g, h1, h2, fun p q s f => ?_⟩
  rcases (nt_SXs hij hj p q).mp s with s | ⟨rfl, rfl⟩
  · exact h3 p q s f
  · exact absurd f e
theorem nt_fX1 {post : SX → Prop} {J : Int32 → Int32 → (Nat → Int32) → (Nat → Int32) → (Nat → Int32) → (Nat → Int32) → (Nat → Int32) → Prop} {c : Int32} {xs ys tk dn : Nat → Int32} {r2 : Int32} {i : Nat} (hi : i < 24) (hJ : ∀ a : Nat → Int32, nt_IX xs ys dn r2 i 24 a → J (nI (i + 1)) c xs ys tk dn a) : ∀ d j : Nat, j + d = 24 → i < j → ∀ a : Nat → Int32, nt_IX xs ys dn r2 i j a → wX_findClusters_40 post J r2 (nI i) (d + 1) (nI j) c xs ys tk dn a := by
  intro d
  induction d with
  | zero =>
    intro j hj _ a h
    have e : j = 24 := by omega
    subst e
    exact br_t nt_end (nm_r (nI_1 i) (hJ a h))
  | succ d ih =>
    intro j hj hij a h
    have hl : j < 24 := by omega
    by_cases z1 : dn i = 0
    · exact br_f (nt_ge hl) ⟨nt_in hi, br_t (by rw [nt_cl hi]; exact z1) (br_t rfl (nm_r (nI_1 j) (ih (j + 1) (by omega) (by omega) a (nt_IXn hij hl (fun e => e.2.2.1 z1) h))))⟩
    · by_cases z2 : dn j = 0
      · exact br_f (nt_ge hl) ⟨nt_in hi, br_f (by rw [nt_cl hi]; exact z1) ⟨nt_in hl, br_t (by rw [nt_cl hl]; exact z2) (br_t rfl (nm_r (nI_1 j) (ih (j + 1) (by omega) (by omega) a (nt_IXn hij hl (fun e => e.2.2.2.1 z2) h))))⟩⟩
      · refine br_f (nt_ge hl) ⟨nt_in hi, br_f (by rw [nt_cl hi]; exact z1) ⟨nt_in hl, br_f (by rw [nt_cl hl]; exact z2) (br_f nt_10 ⟨nt_in hl, nt_in hl, ?_⟩)⟩⟩
        rw [nt_cl hl]
        refine nt_dX hi ?_
        by_cases w : r2 < nt_D xs ys i j
        · exact br_t w (nm_r (nI_1 j) (ih (j + 1) (by omega) (by omega) a (nt_IXn hij hl (fun e => e.2.2.2.2 w) h)))
        · obtain ⟨g, lab, C, S⟩ := h
          have bi := C.1 i
          have bj := C.1 j
          refine br_f w ⟨nt_in hi, nt_in hl, ?_⟩
          rw [nt_cl hi, lab i hi, lab j hl]
          refine nt_jnX (by omega) (by omega) (fun s l sl hsl a' ha' => ?_)
          have K := nt_join C (⟨hi, hl, z1, z2, w⟩ : nt_E xs ys dn r2 i j) sl hsl
          refine nm_r (nI_1 j) (ih (j + 1) (by omega) (by omega) a' ⟨fun p => if g p = l then s else g p, nt_labj C.1 lab (by omega) ha', K.1, fun p q t f => ?_⟩)
          rcases (nt_SXs hij hl p q).mp t with t | ⟨rfl, rfl⟩
          · show (if g p = l then s else g p) = (if g q = l then s else g q)
            rw [S p q t f]
          · exact K.2
theorem nt_fX2 {post : SX → Prop} {c : Int32} {xs ys tk dn : Nat → Int32} {r2 : Int32} (hp : ∀ (a : Nat → Int32) (g : Nat → Nat), nt_lab a g → nt_Cn (nt_E xs ys dn r2) g → nt_inv (nt_E xs ys dn r2) g → post (c, xs, ys, tk, dn, a)) : ∀ d i : Nat, i + d = 24 → ∀ a : Nat → Int32, nt_IX xs ys dn r2 i (i + 1) a → wX_findClusters_29 post r2 (d + 1) (nI i) c xs ys tk dn a := by
  intro d
  induction d with
  | zero =>
    intro i hi a h
    have e : i = 24 := by omega
    subst e
    obtain ⟨g, lab, C, S⟩ := h
    refine br_t nt_end (hp a g lab C (fun p q f => ?_))
    rcases Nat.lt_trichotomy p q with t | t | t
    · exact S p q ((nt_SXa p q).mp ⟨t, f.2.1⟩) f
    · rw [t]
    · exact (S q p ((nt_SXa q p).mp ⟨t, f.1⟩) (nt_Esy xs ys dn r2 p q f)).symm
  | succ d ih =>
    intro i hi a h
    have hl : i < 24 := by omega
    refine br_f (nt_ge hl) (nm_r (nI_1 i) ⟨d + 1, nt_fX1 hl (fun b hb => ih (i + 1) (by omega) b ?_) d (i + 1) (by omega) (by omega) a h⟩)
    obtain ⟨g, lab, C, S⟩ := hb
    exact ⟨g, lab, C, fun p q s f => S p q ((nt_SXe p q).mp s) f⟩
theorem nt_fX3 {post : SX → Prop} {c : Int32} {xs ys tk dn : Nat → Int32} {r2 : Int32} (hp : ∀ (a : Nat → Int32) (g : Nat → Nat), nt_lab a g → nt_Cn (nt_E xs ys dn r2) g → nt_inv (nt_E xs ys dn r2) g → post (c, xs, ys, tk, dn, a)) : ∀ d j : Nat, j + d = 24 → ∀ a : Nat → Int32, (∀ i, i < j → a i = nI i) → wX_findClusters_8 post r2 c (d + 1) (nI j) xs ys tk dn a := by
  intro d
  induction d with
  | zero =>
    intro j hj a h
    have e : j = 24 := by omega
    subst e
    exact br_t nt_end ⟨25, nt_fX2 hp 24 0 rfl a ⟨fun i => i, h, nt_Cid _, fun p q s _ => by unfold nt_SX at s; omega⟩⟩
  | succ d ih =>
    intro j hj a h
    have hl : j < 24 := by omega
    refine br_f (nt_ge hl) ⟨nt_in hl, nm_r (e' := upd a j (nI j)) (by rw [nt_cl hl]) (nm_r (nI_1 j) (ih (j + 1) (by omega) (upd a j (nI j)) (fun i hi => ?_)))⟩
    by_cases e : i = j
    · rw [e, nt_us]
    · rw [nt_un e]; exact h i (by omega)

/-! Y: rounds -/
def nt_IY (xs ys dn : Nat → Int32) (r2 : Int32) (g0 : Nat → Nat) (i j : Nat) (a : Nat → Int32) : Prop :=
  ∃ g : Nat → Nat, nt_lab a g ∧ (∀ p, g p ≤ g0 p) ∧ nt_Cn (nt_E xs ys dn r2) g ∧ (∀ p q, p < i → nt_E xs ys dn r2 p q → g p ≤ g0 q) ∧ ∀ q, q < j → nt_E xs ys dn r2 i q → g i ≤ g0 q
theorem nt_IYn {xs ys dn : Nat → Int32} {r2 : Int32} {g0 : Nat → Nat} {i j : Nat} {a : Nat → Int32} (e : ¬ nt_E xs ys dn r2 i j) (h : nt_IY xs ys dn r2 g0 i j a) : nt_IY xs ys dn r2 g0 i (j + 1) a := by
  obtain ⟨g, h1, h2, h3, h4, h5⟩ := h
  refine ⟨g, h1, h2, h3, h4, fun q hq f => ?_⟩
  by_cases z : q = j
  · rw [z] at f; exact absurd f e
  · exact h5 q (by omega) f
theorem nt_fY1 {post : SY → Prop} {J64 J73 : Int32 → (Nat → Int32) → (Nat → Int32) → (Nat → Int32) → (Nat → Int32) → (Nat → Int32) → Prop} {xs ys tk dn : Nat → Int32} {r2 x3 : Int32} {g0 : Nat → Nat} {i : Nat} (hi : i < 24) (hJ : ∀ a : Nat → Int32, nt_IY xs ys dn r2 g0 i 24 a → J73 (nI (i + 1)) tk xs ys dn a) : ∀ d j : Nat, j + d = 24 → ∀ a : Nat → Int32, nt_IY xs ys dn r2 g0 i j a → wY_findGroups_83 post J64 J73 r2 x3 (nI i) (d + 1) (nI j) tk xs ys dn a := by
  intro d
  induction d with
  | zero =>
    intro j hj a h
    have e : j = 24 := by omega
    subst e
    exact br_t nt_end (nm_r (nI_1 i) (hJ a h))
  | succ d ih =>
    intro j hj a h
    have hl : j < 24 := by omega
    by_cases z1 : dn i = 0
    · exact br_f (nt_ge hl) ⟨nt_in hi, br_t (by rw [nt_cl hi]; exact z1) (nm_r (nI_1 j) (ih (j + 1) (by omega) a (nt_IYn (fun e => e.2.2.1 z1) h)))⟩
    · by_cases z2 : dn j = 0
      · exact br_f (nt_ge hl) ⟨nt_in hi, br_f (by rw [nt_cl hi]; exact z1) ⟨nt_in hl, br_t (by rw [nt_cl hl]; exact z2) (nm_r (nI_1 j) (ih (j + 1) (by omega) a (nt_IYn (fun e => e.2.2.2.1 z2) h)))⟩⟩
      · have h0 := h
        obtain ⟨g, lab, L, C, P, Q⟩ := h
        have bi := C.1 i
        have bj := C.1 j
        have Lj := L j
        by_cases l : g i ≤ g j
        · refine br_f (nt_ge hl) ⟨nt_in hi, br_f (by rw [nt_cl hi]; exact z1) ⟨nt_in hl, br_f (by rw [nt_cl hl]; exact z2) ⟨nt_in hl, nt_in hi, br_t (by rw [nt_cl hi, nt_cl hl, lab i hi, lab j hl]; exact nI_le l (by omega)) (nm_r (nI_1 j) (ih (j + 1) (by omega) a ⟨g, lab, L, C, P, fun q hq f => ?_⟩))⟩⟩⟩
          by_cases z : q = j
          · rw [z]; omega
          · exact Q q (by omega) f
        · refine br_f (nt_ge hl) ⟨nt_in hi, br_f (by rw [nt_cl hi]; exact z1) ⟨nt_in hl, br_f (by rw [nt_cl hl]; exact z2) ⟨nt_in hl, nt_in hi, br_f (by rw [nt_cl hi, nt_cl hl, lab i hi, lab j hl]; exact nI_ge (by omega) (by omega)) ⟨nt_in hl, nt_in hl, ?_⟩⟩⟩⟩
          rw [nt_cl hl]
          refine nt_dY hi ?_
          by_cases w : r2 < nt_D xs ys i j
          · exact br_t w (nm_r (nI_1 j) (ih (j + 1) (by omega) a (nt_IYn (fun e => e.2.2.2.2 w) h0)))
          · have E : nt_E xs ys dn r2 i j := ⟨hi, hl, z1, z2, w⟩
            have ei : (if i = i then g j else g i) = g j := if_pos rfl
            refine br_f w ⟨nt_in hl, nt_in hi, nm_r (e' := upd a i (nI (g j))) (by rw [nt_cl hi, lab j hl]) (nm_r (nI_1 j) (ih (j + 1) (by omega) (upd a i (nI (g j))) ⟨fun p => if p = i then g j else g p, fun p hp => ?_, fun p => ?_, ⟨fun p => ?_, fun f hf p => ?_⟩, fun p q hp f => ?_, fun q hq f => ?_⟩))⟩
            · show upd a i (nI (g j)) p = nI (if p = i then g j else g p)
              by_cases z : p = i
              · rw [z, nt_us, if_pos rfl]
              · rw [nt_un z, if_neg z]; exact lab p hp
            · show (if p = i then g j else g p) ≤ g0 p
              have Lp := L p
              by_cases z : p = i
              · rw [if_pos z]; rw [z] at Lp ⊢; omega
              · rw [if_neg z]; exact Lp
            · show (if p = i then g j else g p) ≤ p
              by_cases z : p = i
              · rw [if_pos z]; omega
              · rw [if_neg z]; exact C.1 p
            · show f (if p = i then g j else g p) = f p
              by_cases z : p = i
              · rw [if_pos z, z, C.2 f hf j]
                exact (hf i j E).symm
              · rw [if_neg z]; exact C.2 f hf p
            · show (if p = i then g j else g p) ≤ g0 q
              rw [if_neg (by omega)]; exact P p q hp f
            · show (if i = i then g j else g i) ≤ g0 q
              rw [ei]
              by_cases z : q = j
              · rw [z]; exact Lj
              · have := Q q (by omega) f
                omega
theorem nt_fY2 {post : SY → Prop} {J64 : Int32 → (Nat → Int32) → (Nat → Int32) → (Nat → Int32) → (Nat → Int32) → (Nat → Int32) → Prop} {xs ys tk dn : Nat → Int32} {r2 : Int32} {k : Nat} {g0 : Nat → Nat} (hJ : ∀ (a : Nat → Int32) (g : Nat → Nat), nt_lab a g → nt_rd (nt_E xs ys dn r2) g0 g → J64 (nI (k + 1)) tk xs ys dn a) : ∀ d i : Nat, i + d = 24 → ∀ a : Nat → Int32, nt_IY xs ys dn r2 g0 i 0 a → wY_findGroups_73 post J64 r2 (nI k) (d + 1) (nI i) tk xs ys dn a := by
  intro d
  induction d with
  | zero =>
    intro i hi a h
    have e : i = 24 := by omega
    subst e
    obtain ⟨g, lab, L, C, P, Q⟩ := h
    exact br_t nt_end (nm_r (nI_1 k) (hJ a g lab ⟨L, C, fun p q f => P p q f.1 f⟩))
  | succ d ih =>
    intro i hi a h
    have hl : i < 24 := by omega
    refine br_f (nt_ge hl) ⟨25, nt_fY1 hl (fun b hb => ih (i + 1) (by omega) b ?_) 24 0 rfl a h⟩
    obtain ⟨g, lab, L, C, P, Q⟩ := hb
    refine ⟨g, lab, L, C, fun p q hp f => ?_, fun q hq => absurd hq (Nat.not_lt_zero q)⟩
    by_cases z : p = i
    · rw [z] at f ⊢; exact Q q f.2.1 f
    · exact P p q (by omega) f
theorem nt_fY3 {post : SY → Prop} {xs ys tk dn : Nat → Int32} {r2 : Int32} (hp : ∀ (a : Nat → Int32) (g : Nat → Nat), nt_lab a g → (∀ c : Nat → Nat, nt_Cn (nt_E xs ys dn r2) c → nt_inv (nt_E xs ys dn r2) c → ∀ i, i < 24 → g i = c i) → post (tk, xs, ys, dn, a)) : ∀ d k : Nat, k + d = 24 → ∀ (a : Nat → Int32) (g : Nat → Nat), nt_lab a g → nt_Cn (nt_E xs ys dn r2) g → (∀ c : Nat → Nat, nt_Cn (nt_E xs ys dn r2) c → nt_inv (nt_E xs ys dn r2) c → nt_bad g c 24 ≤ d) → wY_findGroups_64 post r2 (d + 1) (nI k) tk xs ys dn a := by
  intro d
  induction d with
  | zero =>
    intro k hk a g lab C B
    have e : k = 24 := by omega
    subst e
    exact br_t nt_end (hp a g lab (fun c hc ic => nt_bad_0 (by have := B c hc ic; omega)))
  | succ d ih =>
    intro k hk a g lab C B
    have hl : k < 24 := by omega
    exact br_f (nt_ge hl) ⟨25, nt_fY2 (g0 := g) (fun b g' lab' R => ih (k + 1) (by omega) b g' lab' R.2.1 (fun c hc ic => nt_rnd (nt_Esy xs ys dn r2) (fun p q f => f.1) C R hc ic (B c hc ic))) 24 0 rfl a ⟨g, lab, fun p => Nat.le_refl _, C, fun p q hp => absurd hp (Nat.not_lt_zero p), fun q hq => absurd hq (Nat.not_lt_zero q)⟩⟩
