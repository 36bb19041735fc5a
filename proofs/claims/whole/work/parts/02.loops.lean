/-! size -/
theorem nt_sizeY (xs ys tk dn gr : Nat → Int32) (post : Int32 → Prop) (hp : post (nI (nt_cnt tk 24))) : ∀ d j : Nat, j + d = 24 → wY_size_4 post tk xs ys dn gr (d + 1) (nI (nt_cnt tk j)) (nI j) := by
  intro d
  induction d with
  | zero =>
    intro j hj
    cases (by omega : j = 24)
    exact br_t nt_end hp
  | succ d ih =>
    intro j hj
    have hl : j < 24 := by omega
    by_cases z : tk j = 0
    · have i := ih (j + 1) (by omega)
      rw [nt_cnt_t z] at i
      exact br_f (nt_ge hl) ⟨nt_in hl, br_t (by rw [nt_cl hl]; exact z) (nm_r (nI_1 j) i)⟩
    · have i := ih (j + 1) (by omega)
      rw [nt_cnt_f z] at i
      exact br_f (nt_ge hl) ⟨nt_in hl, br_f (by rw [nt_cl hl]; exact z) (nm_r (nI_1 _) (nm_r (nI_1 j) i))⟩
theorem nt_sizeW {xs ys tk dn gr : Nat → Int32} {post : Int32 → Prop} (hp : post (nI (nt_cnt tk 24))) : wpY_size post (tk, xs, ys, dn, gr) :=
  ⟨25, nt_sizeY xs ys tk dn gr post hp 24 0 rfl⟩

/-! counting the near points, in lockstep -/
theorem nt_near0 (c : Int32) (xs ys tk dn cl gr : Nat → Int32) (x y r2 : Int32) : ∀ d j : Nat, j + d = 24 → ∀ acc : Int32, ∃ r : Int32, (∀ post : Int32 → Prop, post r → wX_countNear_6 post x y r2 c xs ys tk dn cl (d + 1) acc (nI j)) ∧ (∀ post : Int32 → Prop, post r → wY_near_6 post x y r2 tk xs ys dn gr (d + 1) acc (nI j)) := by
  intro d
  induction d with
  | zero =>
    intro j hj acc
    cases (by omega : j = 24)
    exact ⟨acc, fun _ hp => br_t nt_end hp, fun _ hp => br_t nt_end hp⟩
  | succ d ih =>
    intro j hj acc
    have hl : j < 24 := by omega
    have h := nt_ge hl
    have hi := nt_in hl
    by_cases z : tk (nI j).toNatClampNeg = 0
    · obtain ⟨r, hX, hY⟩ := ih (j + 1) (by omega) acc
      exact ⟨r, fun post hp => br_f h ⟨hi, br_t z (nm_r (nI_1 j) (hX post hp))⟩, fun post hp => br_f h ⟨hi, br_t z (nm_r (nI_1 j) (hY post hp))⟩⟩
    · by_cases w : r2 < nt_d xs ys j x y
      · obtain ⟨r, hX, hY⟩ := ih (j + 1) (by omega) acc
        exact ⟨r, fun post hp => br_f h ⟨hi, br_f z (nt_dX hl (br_t w (nm_r (nI_1 j) (hX post hp))))⟩, fun post hp => br_f h ⟨hi, br_f z (nt_dY hl (br_t w (nm_r (nI_1 j) (hY post hp))))⟩⟩
      · obtain ⟨r, hX, hY⟩ := ih (j + 1) (by omega) (acc + 1)
        exact ⟨r, fun post hp => br_f h ⟨hi, br_f z (nt_dX hl (br_f w (nm_e (nm_r (nI_1 j) (hX post hp)))))⟩, fun post hp => br_f h ⟨hi, br_f z (nt_dY hl (br_f w (nm_e (nm_r (nI_1 j) (hY post hp)))))⟩⟩
theorem nt_near (c : Int32) (xs ys tk dn cl gr : Nat → Int32) (x y r2 : Int32) : ∃ r : Int32, (∀ post : Int32 → Prop, post r → wpX_countNear post (c, xs, ys, tk, dn, cl) x y r2) ∧ (∀ post : Int32 → Prop, post r → wpY_near post (tk, xs, ys, dn, gr) x y r2) := by
  obtain ⟨r, hX, hY⟩ := nt_near0 c xs ys tk dn cl gr x y r2 24 0 rfl 0
  exact ⟨r, fun post hp => ⟨25, hX post hp⟩, fun post hp => ⟨25, hY post hp⟩⟩

/-! the rank, in lockstep -/
theorem nt_rank0 (c : Int32) (xs ys tk dn cl gr : Nat → Int32) (p x y own : Int32) : ∀ d j : Nat, j + d = 24 → ∀ acc : Int32, ∃ r : Int32, (∀ post : Int32 → Prop, post r → wX_rankOf_15 post p x y own c xs ys tk dn cl (d + 1) acc (nI j)) ∧ (∀ post : Int32 → Prop, post r → wY_rank_15 post p x y own tk xs ys dn gr (d + 1) acc (nI j)) := by
  intro d
  induction d with
  | zero =>
    intro j hj acc
    cases (by omega : j = 24)
    exact ⟨acc, fun _ hp => br_t nt_end hp, fun _ hp => br_t nt_end hp⟩
  | succ d ih =>
    intro j hj acc
    have hl : j < 24 := by omega
    have h := nt_ge hl
    have hi := nt_in hl
    by_cases z : tk (nI j).toNatClampNeg = 0
    · obtain ⟨r, hX, hY⟩ := ih (j + 1) (by omega) acc
      refine ⟨r, fun post hp => br_f h (nt_dX hl ?_), fun post hp => br_f h (nt_dY hl ⟨hi, br_t z (nm_r (nI_1 j) (hY post hp))⟩)⟩
      have K : ∀ z0 : Int32, wX_rankOf_57 post (wX_rankOf_15 post p x y own c xs ys tk dn cl (d + 1)) p x y own acc (nI j) z0 c xs ys tk dn cl := fun z0 => ⟨hi, br_t z (nm_r (nI_1 j) (hX post hp))⟩
      exact br_c (fun _ => K 1) (fun _ => br_c (fun _ => br_c (fun _ => K 0) (fun _ => K 1)) (fun _ => K 0))
    · by_cases b1 : nt_d xs ys j x y < own
      · obtain ⟨r, hX, hY⟩ := ih (j + 1) (by omega) (acc + 1)
        exact ⟨r, fun post hp => br_f h (nt_dX hl (br_t b1 ⟨hi, br_f z (br_f nt_10 (nm_e (nm_r (nI_1 j) (hX post hp))))⟩)), fun post hp => br_f h (nt_dY hl ⟨hi, br_f z (br_t b1 (nm_e (nm_r (nI_1 j) (hY post hp))))⟩)⟩
      · by_cases b2 : nt_d xs ys j x y = own
        · by_cases b3 : p ≤ nI j
          · obtain ⟨r, hX, hY⟩ := ih (j + 1) (by omega) acc
            exact ⟨r, fun post hp => br_f h (nt_dX hl (br_f b1 (br_t b2 (br_t b3 ⟨hi, br_f z (br_t rfl (nm_r (nI_1 j) (hX post hp)))⟩)))), fun post hp => br_f h (nt_dY hl ⟨hi, br_f z (br_f b1 (br_t b2 (br_t b3 (nm_r (nI_1 j) (hY post hp)))))⟩)⟩
          · obtain ⟨r, hX, hY⟩ := ih (j + 1) (by omega) (acc + 1)
            exact ⟨r, fun post hp => br_f h (nt_dX hl (br_f b1 (br_t b2 (br_f b3 ⟨hi, br_f z (br_f nt_10 (nm_e (nm_r (nI_1 j) (hX post hp))))⟩)))), fun post hp => br_f h (nt_dY hl ⟨hi, br_f z (br_f b1 (br_t b2 (br_f b3 (nm_e (nm_r (nI_1 j) (hY post hp))))))⟩)⟩
        · obtain ⟨r, hX, hY⟩ := ih (j + 1) (by omega) acc
          exact ⟨r, fun post hp => br_f h (nt_dX hl (br_f b1 (br_f b2 ⟨hi, br_f z (br_t rfl (nm_r (nI_1 j) (hX post hp)))⟩))), fun post hp => br_f h (nt_dY hl ⟨hi, br_f z (br_f b1 (br_f b2 (nm_r (nI_1 j) (hY post hp))))⟩)⟩
theorem nt_rank (c : Int32) (xs ys tk dn cl gr : Nat → Int32) {p : Nat} (hp : p < 24) (x y : Int32) : ∃ r : Int32, (∀ post : Int32 → Prop, post r → wpX_rankOf post (c, xs, ys, tk, dn, cl) (nI p) x y) ∧ (∀ post : Int32 → Prop, post r → wpY_rank post (tk, xs, ys, dn, gr) (nI p) x y) := by
  obtain ⟨r, hX, hY⟩ := nt_rank0 c xs ys tk dn cl gr (nI p) x y (nt_d xs ys p x y) 24 0 rfl 0
  refine ⟨r, fun post h => ?_, fun post h => ?_⟩
  · unfold wpX_rankOf
    dsimp only
    exact nt_dX hp ⟨25, hX post h⟩
  · unfold wpY_rank
    dsimp only
    exact nt_dY hp ⟨25, hY post h⟩
theorem nt_nst0 (c : Int32) (xs ys tk dn cl gr : Nat → Int32) (x y k : Int32) : ∀ d j : Nat, j + d = 24 → ∃ r : Int32, (∀ post : Int32 → Prop, post r → wX_nearest_16 post x y k c xs ys tk dn cl (d + 1) (nI j)) ∧ (∀ post : Int32 → Prop, post r → wY_nearest_17 post x y k tk xs ys dn gr (d + 1) (nI j)) := by
  intro d
  induction d with
  | zero =>
    intro j hj
    cases (by omega : j = 24)
    exact ⟨-3, fun _ hp => br_t nt_end hp, fun _ hp => br_t nt_end hp⟩
  | succ d ih =>
    intro j hj
    have hl : j < 24 := by omega
    have h := nt_ge hl
    have hi := nt_in hl
    obtain ⟨r, hX, hY⟩ := ih (j + 1) (by omega)
    by_cases z : tk (nI j).toNatClampNeg = 0
    · exact ⟨r, fun post hp => br_f h ⟨hi, br_t z (nm_r (nI_1 j) (hX post hp))⟩, fun post hp => br_f h ⟨hi, br_t z (nm_r (nI_1 j) (hY post hp))⟩⟩
    · obtain ⟨s, sX, sY⟩ := nt_rank c xs ys tk dn cl gr hl x y
      by_cases w : s = k
      · exact ⟨nI j, fun post hp => br_f h ⟨hi, br_f z (sX _ (br_t w hp))⟩, fun post hp => br_f h ⟨hi, br_f z (sY _ (br_t w hp))⟩⟩
      · exact ⟨r, fun post hp => br_f h ⟨hi, br_f z (sX _ (br_f w (nm_r (nI_1 j) (hX post hp))))⟩, fun post hp => br_f h ⟨hi, br_f z (sY _ (br_f w (nm_r (nI_1 j) (hY post hp))))⟩⟩

/-! the box, in lockstep -/
theorem nt_box0 (c : Int32) (xs ys tk dn cl gr : Nat → Int32) (x1 x2 x3 x4 : Int32) : ∀ d j : Nat, j + d = 24 → ∀ acc : Int32, ∃ r : Int32, (∀ post : Int32 → Prop, post r → wX_inBox_6 post x1 x2 x3 x4 c xs ys tk dn cl (d + 1) acc (nI j)) ∧ (∀ post : Int32 → Prop, post r → wY_inBox_6 post x1 x2 x3 x4 tk xs ys dn gr (d + 1) acc (nI j)) := by
  intro d
  induction d with
  | zero =>
    intro j hj acc
    cases (by omega : j = 24)
    exact ⟨acc, fun _ hp => br_t nt_end hp, fun _ hp => br_t nt_end hp⟩
  | succ d ih =>
    intro j hj acc
    have hl : j < 24 := by omega
    have h := nt_ge hl
    have hi := nt_in hl
    obtain ⟨r, hX, hY⟩ := ih (j + 1) (by omega) acc
    by_cases z : tk (nI j).toNatClampNeg = 0
    · refine ⟨r, fun post hp => br_f h ?_, fun post hp => br_f h ⟨hi, br_t z (nm_r (nI_1 j) (hY post hp))⟩⟩
      have K : ∀ x7 z0 : Int32, wX_inBox_70 post (wX_inBox_6 post x1 x2 x3 x4 c xs ys tk dn cl (d + 1)) x1 x2 x3 x4 acc (nI j) x7 z0 c xs ys tk dn cl := fun x7 z0 => ⟨hi, br_t z (nm_r (nI_1 j) (hX post hp))⟩
      have K4 : ∀ x7 : Int32, wX_inBox_40 post (wX_inBox_6 post x1 x2 x3 x4 c xs ys tk dn cl (d + 1)) x1 x2 x3 x4 acc (nI j) x7 c xs ys tk dn cl := fun x7 => ⟨hi, br_c (fun _ => K x7 0) (fun _ => ⟨hi, br_c (fun _ => K x7 0) (fun _ => K x7 1)⟩)⟩
      exact ⟨hi, br_c (fun _ => K4 0) (fun _ => ⟨hi, br_c (fun _ => K4 0) (fun _ => K4 1)⟩)⟩
    · have K0 : ∀ post : Int32 → Prop, post r → ∀ x7 z0 : Int32, (x7 = 0 ∨ z0 = 0) → wX_inBox_70 post (wX_inBox_6 post x1 x2 x3 x4 c xs ys tk dn cl (d + 1)) x1 x2 x3 x4 acc (nI j) x7 z0 c xs ys tk dn cl := fun post hp x7 z0 hz => ⟨hi, br_f z (br_c (fun _ => nm_r (nI_1 j) (hX post hp)) (fun g => br_t (hz.resolve_left g) (nm_r (nI_1 j) (hX post hp))))⟩
      have K4 : ∀ post : Int32 → Prop, post r → wX_inBox_40 post (wX_inBox_6 post x1 x2 x3 x4 c xs ys tk dn cl (d + 1)) x1 x2 x3 x4 acc (nI j) 0 c xs ys tk dn cl := fun post hp => ⟨hi, br_c (fun _ => K0 post hp 0 0 (Or.inl rfl)) (fun _ => ⟨hi, br_c (fun _ => K0 post hp 0 0 (Or.inl rfl)) (fun _ => K0 post hp 0 1 (Or.inl rfl))⟩)⟩
      by_cases b1 : xs (nI j).toNatClampNeg < x1
      · exact ⟨r, fun post hp => br_f h ⟨hi, br_t b1 (K4 post hp)⟩, fun post hp => br_f h ⟨hi, br_f z ⟨hi, br_t b1 (nm_r (nI_1 j) (hY post hp))⟩⟩⟩
      · by_cases b2 : x2 < xs (nI j).toNatClampNeg
        · exact ⟨r, fun post hp => br_f h ⟨hi, br_f b1 ⟨hi, br_t b2 (K4 post hp)⟩⟩, fun post hp => br_f h ⟨hi, br_f z ⟨hi, br_f b1 ⟨hi, br_t b2 (nm_r (nI_1 j) (hY post hp))⟩⟩⟩⟩
        · by_cases b3 : ys (nI j).toNatClampNeg < x3
          · exact ⟨r, fun post hp => br_f h ⟨hi, br_f b1 ⟨hi, br_f b2 ⟨hi, br_t b3 (K0 post hp 1 0 (Or.inr rfl))⟩⟩⟩, fun post hp => br_f h ⟨hi, br_f z ⟨hi, br_f b1 ⟨hi, br_f b2 ⟨hi, br_t b3 (nm_r (nI_1 j) (hY post hp))⟩⟩⟩⟩⟩
          · by_cases b4 : x4 < ys (nI j).toNatClampNeg
            · exact ⟨r, fun post hp => br_f h ⟨hi, br_f b1 ⟨hi, br_f b2 ⟨hi, br_f b3 ⟨hi, br_t b4 (K0 post hp 1 0 (Or.inr rfl))⟩⟩⟩⟩, fun post hp => br_f h ⟨hi, br_f z ⟨hi, br_f b1 ⟨hi, br_f b2 ⟨hi, br_f b3 ⟨hi, br_t b4 (nm_r (nI_1 j) (hY post hp))⟩⟩⟩⟩⟩⟩
            · obtain ⟨s, sX, sY⟩ := ih (j + 1) (by omega) (acc + 1)
              exact ⟨s, fun post hp => br_f h ⟨hi, br_f b1 ⟨hi, br_f b2 ⟨hi, br_f b3 ⟨hi, br_f b4 ⟨hi, br_f z (br_f nt_10 (br_f nt_10 (nm_e (nm_r (nI_1 j) (sX post hp)))))⟩⟩⟩⟩⟩, fun post hp => br_f h ⟨hi, br_f z ⟨hi, br_f b1 ⟨hi, br_f b2 ⟨hi, br_f b3 ⟨hi, br_f b4 (nm_e (nm_r (nI_1 j) (sY post hp)))⟩⟩⟩⟩⟩⟩
