theorem nt_fcX {c : Int32} {xs ys tk dn cl dn' : Nat → Int32} {r2 m : Int32} (dX : ∀ post : SX → Prop, post (c, xs, ys, tk, dn', cl) → wpX_findDense post (c, xs, ys, tk, dn, cl) r2 m) {post : SX → Prop} (hp : ∀ (a : Nat → Int32) (g : Nat → Nat), nt_lab a g → nt_Cn (nt_E xs ys dn' r2) g → nt_inv (nt_E xs ys dn' r2) g → post (c, xs, ys, tk, dn', a)) : wpX_findClusters post (c, xs, ys, tk, dn, cl) r2 m := by
  unfold wpX_findClusters
  dsimp only
  exact dX _ ⟨25, nt_fX3 hp 24 0 rfl cl (fun i hi => absurd hi (Nat.not_lt_zero i))⟩
theorem nt_fcY {xs ys tk dn gr dn' : Nat → Int32} {r2 m : Int32} (dY : ∀ post : SY → Prop, (∀ gr' : Nat → Int32, (∀ i, i < 24 → gr' i = nI i) → ∃ n64 : Nat, wY_findGroups_64 post r2 n64 0 tk xs ys dn' gr') → wpY_findGroups post (tk, xs, ys, dn, gr) r2 m) {post : SY → Prop} (hp : ∀ (a : Nat → Int32) (g : Nat → Nat), nt_lab a g → (∀ c : Nat → Nat, nt_Cn (nt_E xs ys dn' r2) c → nt_inv (nt_E xs ys dn' r2) c → ∀ i, i < 24 → g i = c i) → post (tk, xs, ys, dn', a)) : wpY_findGroups post (tk, xs, ys, dn, gr) r2 m :=
  dY post (fun gr' h => ⟨25, nt_fY3 hp 24 0 rfl gr' (fun i => i) h (nt_Cid _) (fun c _ _ => nt_bad_le _ c 24)⟩)

/-! clusters -/
theorem nt_cc (c : Int32) (xs ys tk dn cl : Nat → Int32) : ∀ d j : Nat, j + d = 24 → ∀ acc : Int32, ∃ r : Int32, (∀ post : Int32 → SX → Prop, post r (c, xs, ys, tk, dn, cl) → wX_clusters_11 post c xs ys tk dn cl (d + 1) acc (nI j)) ∧ (∀ gr : Nat → Int32, (∀ i, i < 24 → gr i = cl i) → ∀ post : Int32 → SY → Prop, post r (tk, xs, ys, dn, gr) → wY_clusters_11 post tk xs ys dn gr (d + 1) acc (nI j)) := by
  intro d
  induction d with
  | zero =>
    intro j hj acc
    have e : j = 24 := by omega
    subst e
    exact ⟨acc, fun _ hp => br_t nt_end hp, fun _ _ _ hp => br_t nt_end hp⟩
  | succ d ih =>
    intro j hj acc
    have hl : j < 24 := by omega
    have h := nt_ge hl
    have hi := nt_in hl
    by_cases z : dn (nI j).toNatClampNeg = 0
    · obtain ⟨r, hX, hY⟩ := ih (j + 1) (by omega) acc
      exact ⟨r, fun post hp => br_f h ⟨hi, br_t z (nm_r (nI_1 j) (hX post hp))⟩, fun gr hg post hp => br_f h ⟨hi, br_t z (nm_r (nI_1 j) (hY gr hg post hp))⟩⟩
    · by_cases w : cl j = nI j
      · obtain ⟨r, hX, hY⟩ := ih (j + 1) (by omega) (acc + 1)
        exact ⟨r, fun post hp => br_f h ⟨hi, br_f z ⟨hi, br_t (by rw [nt_cl hl]; exact w) (nm_e (nm_r (nI_1 j) (hX post hp)))⟩⟩, fun gr hg post hp => br_f h ⟨hi, br_f z ⟨hi, br_t (by rw [nt_cl hl, hg j hl]; exact w) (nm_e (nm_r (nI_1 j) (hY gr hg post hp)))⟩⟩⟩
      · obtain ⟨r, hX, hY⟩ := ih (j + 1) (by omega) acc
        exact ⟨r, fun post hp => br_f h ⟨hi, br_f z ⟨hi, br_f (by rw [nt_cl hl]; exact w) (nm_r (nI_1 j) (hX post hp))⟩⟩, fun gr hg post hp => br_f h ⟨hi, br_f z ⟨hi, br_f (by rw [nt_cl hl, hg j hl]; exact w) (nm_r (nI_1 j) (hY gr hg post hp))⟩⟩⟩
theorem i_vc_clusters {k : Nat} {u : SX} {v : SY} (I : i_Rel k u v) (hk : k + 5 ≤ 2560) (v1 : Int32) (v2 : Int32) : wpX_clusters (fun r u' => wpY_clusters (fun r' v' => r' = r ∧ i_Rel (k + 5) u' v') v v1 v2) u v1 v2 := by
  obtain ⟨xs, ys, tk, dn, cl, gr, rfl, rfl, ok⟩ := I
  unfold wpX_clusters wpY_clusters
  dsimp only
  obtain ⟨dn', dX, dY⟩ := nt_dn (nI (nt_cnt tk 24)) xs ys tk dn cl gr v1 v2
  refine nt_fcX dX (fun a g lab C i => ?_)
  obtain ⟨r, hX, hY⟩ := nt_cc (nI (nt_cnt tk 24)) xs ys tk dn' a 24 0 rfl 0
  refine ⟨25, hX _ (nt_fcY dY (fun b e lab' G => ⟨25, hY b (fun p hp => ?_) _ ⟨rfl, xs, ys, tk, dn', a, b, rfl, rfl, ok⟩⟩))⟩
  rw [lab' p hp, lab p hp, G g C i p hp]

/-! clusterOf -/
theorem i_vc_clusterOf {k : Nat} {u : SX} {v : SY} (I : i_Rel k u v) (hk : k + 5 ≤ 2560) (v1 : Int32) (v2 : Int32) (v3 : Int32) : wpX_clusterOf (fun r u' => wpY_clusterOf (fun r' v' => r' = r ∧ i_Rel (k + 5) u' v') v v1 v2 v3) u v1 v2 v3 := by
  obtain ⟨xs, ys, tk, dn, cl, gr, rfl, rfl, ok⟩ := I
  unfold wpX_clusterOf wpY_clusterOf
  dsimp only
  by_cases h : nt_has tk v1
  · obtain ⟨p, hp, rfl, hz⟩ := h
    obtain ⟨dn', dX, dY⟩ := nt_dn (nI (nt_cnt tk 24)) xs ys tk dn cl gr v2 v3
    refine nt_hasX hp hz (br_f nt_10 (nt_fcX dX (fun a g lab C i => ?_)))
    dsimp only
    rw [nt_cl hp]
    by_cases z : dn' p = 0
    · refine ⟨nt_in hp, br_t z (nt_hasY hp hz (br_f nt_10 (nt_fcY dY (fun b e lab' G => ?_))))⟩
      exact ⟨nt_in hp, br_t z ⟨rfl, xs, ys, tk, dn', a, b, rfl, rfl, ok⟩⟩
    · refine ⟨nt_in hp, br_f z ⟨nt_in hp, nt_hasY hp hz (br_f nt_10 (nt_fcY dY (fun b e lab' G => ?_)))⟩⟩
      refine ⟨nt_in hp, br_f z ⟨nt_in hp, ?_, xs, ys, tk, dn', a, b, rfl, rfl, ok⟩⟩
      show b p = a p
      rw [lab' p hp, lab p hp, G g C i p hp]
  · exact nt_nasX h (br_t rfl (nt_nasY h (br_t rfl ⟨rfl, xs, ys, tk, dn, cl, gr, rfl, rfl, ok⟩)))

/-! noise -/
theorem nt_fr0 (c : Int32) (xs ys tk dn cl : Nat → Int32) (r2 : Int32) {p : Nat} (hp : p < 24) : ∀ d j : Nat, j + d = 24 → ∃ r : Int32, (∀ post : Int32 → Prop, post r → wX_isFringe_2 post (nI p) r2 c xs ys tk dn cl (d + 1) (nI j)) ∧ (∀ (gr : Nat → Int32) (post : Int32 → Prop), post r → wY_besideDense_2 post (nI p) r2 tk xs ys dn gr (d + 1) (nI j)) := by
  intro d
  induction d with
  | zero =>
    intro j hj
    have e : j = 24 := by omega
    subst e
    exact ⟨0, fun _ hp => br_t nt_end hp, fun _ _ hp => br_t nt_end hp⟩
  | succ d ih =>
    intro j hj
    have hl : j < 24 := by omega
    have h := nt_ge hl
    have hi := nt_in hl
    obtain ⟨r, hX, hY⟩ := ih (j + 1) (by omega)
    by_cases z : dn (nI j).toNatClampNeg = 0
    · exact ⟨r, fun post q => br_f h ⟨hi, br_t z (nm_r (nI_1 j) (hX post q))⟩, fun gr post q => br_f h ⟨hi, br_t z (nm_r (nI_1 j) (hY gr post q))⟩⟩
    · by_cases w : r2 < nt_D xs ys j p
      · refine ⟨r, fun post q => br_f h ⟨hi, br_f z ⟨nt_in hp, nt_in hp, ?_⟩⟩, fun gr post q => br_f h ⟨hi, br_f z ⟨hi, hi, ?_⟩⟩⟩
        · rw [nt_cl hp]
          exact nt_dX hl (br_t w (nm_r (nI_1 j) (hX post q)))
        · rw [nt_cl hl]
          refine nt_dY hp ?_
          rw [nt_dsym]
          exact br_t w (nm_r (nI_1 j) (hY gr post q))
      · refine ⟨1, fun post q => br_f h ⟨hi, br_f z ⟨nt_in hp, nt_in hp, ?_⟩⟩, fun gr post q => br_f h ⟨hi, br_f z ⟨hi, hi, ?_⟩⟩⟩
        · rw [nt_cl hp]
          exact nt_dX hl (br_f w q)
        · rw [nt_cl hl]
          refine nt_dY hp ?_
          rw [nt_dsym]
          exact br_f w q
theorem nt_fr (c : Int32) (xs ys tk dn cl : Nat → Int32) (r2 : Int32) {p : Nat} (hp : p < 24) : ∃ r : Int32, (∀ post : Int32 → Prop, post r → wpX_isFringe post (c, xs, ys, tk, dn, cl) (nI p) r2) ∧ (∀ (gr : Nat → Int32) (post : Int32 → Prop), post r → wpY_besideDense post (tk, xs, ys, dn, gr) (nI p) r2) := by
  obtain ⟨r, hX, hY⟩ := nt_fr0 c xs ys tk dn cl r2 hp 24 0 rfl
  exact ⟨r, fun post h => ⟨25, hX post h⟩, fun gr post h => ⟨25, hY gr post h⟩⟩
theorem nt_no0 (c : Int32) (xs ys tk dn cl : Nat → Int32) (r2 : Int32) : ∀ d j : Nat, j + d = 24 → ∀ acc : Int32, ∃ r : Int32, (∀ post : Int32 → SX → Prop, post r (c, xs, ys, tk, dn, cl) → wX_noise_11 post r2 c xs ys tk dn cl (d + 1) acc (nI j)) ∧ (∀ (gr : Nat → Int32) (post : Int32 → SY → Prop), post r (tk, xs, ys, dn, gr) → wY_noise_11 post r2 tk xs ys dn gr (d + 1) acc (nI j)) := by
  intro d
  induction d with
  | zero =>
    intro j hj acc
    have e : j = 24 := by omega
    subst e
    exact ⟨acc, fun _ hp => br_t nt_end hp, fun _ _ hp => br_t nt_end hp⟩
  | succ d ih =>
    intro j hj acc
    have hl : j < 24 := by omega
    have h := nt_ge hl
    have hi := nt_in hl
    obtain ⟨r, hX, hY⟩ := ih (j + 1) (by omega) acc
    by_cases z : tk (nI j).toNatClampNeg = 0
    · exact ⟨r, fun post q => br_f h ⟨hi, br_t z (nm_r (nI_1 j) (hX post q))⟩, fun gr post q => br_f h ⟨hi, br_t z (nm_r (nI_1 j) (hY gr post q))⟩⟩
    · by_cases w : dn (nI j).toNatClampNeg = 0
      · obtain ⟨s, sX, sY⟩ := nt_fr c xs ys tk dn cl r2 hl
        by_cases y : s = 0
        · obtain ⟨t, tX, tY⟩ := ih (j + 1) (by omega) (acc + 1)
          exact ⟨t, fun post q => br_f h ⟨hi, br_f z ⟨hi, br_t w (sX _ (br_t y (nm_e (nm_r (nI_1 j) (tX post q)))))⟩⟩, fun gr post q => br_f h ⟨hi, br_f z ⟨hi, br_t w (sY gr _ (br_t y (nm_e (nm_r (nI_1 j) (tY gr post q)))))⟩⟩⟩
        · exact ⟨r, fun post q => br_f h ⟨hi, br_f z ⟨hi, br_t w (sX _ (br_f y (nm_r (nI_1 j) (hX post q))))⟩⟩, fun gr post q => br_f h ⟨hi, br_f z ⟨hi, br_t w (sY gr _ (br_f y (nm_r (nI_1 j) (hY gr post q))))⟩⟩⟩
      · exact ⟨r, fun post q => br_f h ⟨hi, br_f z ⟨hi, br_f w (nm_r (nI_1 j) (hX post q))⟩⟩, fun gr post q => br_f h ⟨hi, br_f z ⟨hi, br_f w (nm_r (nI_1 j) (hY gr post q))⟩⟩⟩
theorem i_vc_noise {k : Nat} {u : SX} {v : SY} (I : i_Rel k u v) (hk : k + 5 ≤ 2560) (v1 : Int32) (v2 : Int32) : wpX_noise (fun r u' => wpY_noise (fun r' v' => r' = r ∧ i_Rel (k + 5) u' v') v v1 v2) u v1 v2 := by
  obtain ⟨xs, ys, tk, dn, cl, gr, rfl, rfl, ok⟩ := I
  unfold wpX_noise wpY_noise
  dsimp only
  obtain ⟨dn', dX, dY⟩ := nt_dn (nI (nt_cnt tk 24)) xs ys tk dn cl gr v1 v2
  obtain ⟨r, hX, hY⟩ := nt_no0 (nI (nt_cnt tk 24)) xs ys tk dn' cl v1 24 0 rfl 0
  exact dX _ ⟨25, hX _ (nt_fcY dY (fun b e lab' G => ⟨25, hY b _ ⟨rfl, xs, ys, tk, dn', cl, b, rfl, rfl, ok⟩⟩))⟩
