section
/-! numbers against 24 -/
theorem nt_24 : nI 24 = 24 := by decide +kernel
theorem nt_23 : nI 23 = 23 := by decide +kernel
theorem nt_ge {j : Nat} (h : j < 24) : ¬ (24 : Int32) ≤ nI j := by rw [← nt_24]; exact nI_ge h (by decide)
theorem nt_end : (24 : Int32) ≤ nI 24 := by rw [← nt_24]; exact nI_le (Nat.le_refl _) (by decide)
theorem nt_in {j : Nat} (h : j < 24) : vp_in (nI j) 24 := vp_in_nI h (by decide)
theorem nt_cl {j : Nat} (h : j < 24) : (nI j).toNatClampNeg = j := nI_clamp (by omega)
theorem nt_b0 : vp_nar .boolean 0 = 0 := by decide
theorem nt_b1 : vp_nar .boolean 1 = 1 := by decide
theorem nt_10 : ¬ (1 : Int32) = 0 := by decide
theorem nt_us {f : Nat → Int32} {k : Nat} {x : Int32} : upd f k x k = x := by unfold upd; exact if_pos rfl
theorem nt_un {f : Nat → Int32} {k j : Nat} {x : Int32} (h : j ≠ k) : upd f k x j = f j := by unfold upd; exact if_neg h

/-! how many places hold a point -/
def nt_cnt (f : Nat → Int32) : Nat → Nat
  | 0 => 0
  | n + 1 => nt_cnt f n + (if f n = 0 then 0 else 1)
theorem nt_cnt_t {f : Nat → Int32} {n : Nat} (h : f n = 0) : nt_cnt f (n + 1) = nt_cnt f n := by
  show nt_cnt f n + (if f n = 0 then 0 else 1) = _
  rw [if_pos h]; rfl
theorem nt_cnt_f {f : Nat → Int32} {n : Nat} (h : ¬ f n = 0) : nt_cnt f (n + 1) = nt_cnt f n + 1 := by
  show nt_cnt f n + (if f n = 0 then 0 else 1) = _
  rw [if_neg h]
theorem nt_cnt_le (f : Nat → Int32) (n : Nat) : nt_cnt f n ≤ n := by
  induction n with
  | zero => exact Nat.le_refl _
  | succ n ih =>
    by_cases h : f n = 0
    · rw [nt_cnt_t h]; omega
    · rw [nt_cnt_f h]; omega
theorem nt_cnt_lt {f : Nat → Int32} {n p : Nat} (hp : p < n) (hz : f p = 0) : nt_cnt f n < n := by
  induction n with
  | zero => omega
  | succ n ih =>
    by_cases e : p = n
    · have := nt_cnt_le f n
      rw [nt_cnt_t (by rw [← e]; exact hz)]; omega
    · have := ih (by omega)
      by_cases h : f n = 0
      · rw [nt_cnt_t h]; omega
      · rw [nt_cnt_f h]; omega
theorem nt_cnt_all {f : Nat → Int32} {n : Nat} (h : ∀ p, p < n → ¬ f p = 0) : nt_cnt f n = n := by
  induction n with
  | zero => rfl
  | succ n ih => rw [nt_cnt_f (h n (by omega)), ih (fun p hp => h p (by omega))]
theorem nt_cnt_out {f : Nat → Int32} {p : Nat} {v : Int32} {n : Nat} (h : n ≤ p) : nt_cnt (upd f p v) n = nt_cnt f n := by
  induction n with
  | zero => rfl
  | succ n ih =>
    have e : upd f p v n = f n := nt_un (by omega)
    have i := ih (by omega)
    by_cases z : f n = 0
    · rw [nt_cnt_t z, nt_cnt_t (e.trans z), i]
    · rw [nt_cnt_f z, nt_cnt_f (by rw [e]; exact z), i]
theorem nt_cnt_put {f : Nat → Int32} {p : Nat} {v : Int32} {n : Nat} (hp : p < n) (hz : f p = 0) (hv : ¬ v = 0) : nt_cnt (upd f p v) n = nt_cnt f n + 1 := by
  induction n with
  | zero => omega
  | succ n ih =>
    by_cases e : n = p
    · subst e
      rw [nt_cnt_t hz, nt_cnt_f (by rw [nt_us]; exact hv), nt_cnt_out (Nat.le_refl _)]
    · have en : upd f p v n = f n := nt_un e
      have i := ih (by omega)
      by_cases z : f n = 0
      · rw [nt_cnt_t z, nt_cnt_t (en.trans z), i]
      · rw [nt_cnt_f z, nt_cnt_f (by rw [en]; exact z), i]
theorem nt_cnt_del {f : Nat → Int32} {p n : Nat} (hp : p < n) (hz : ¬ f p = 0) : nt_cnt (upd f p 0) n + 1 = nt_cnt f n := by
  induction n with
  | zero => omega
  | succ n ih =>
    by_cases e : n = p
    · subst e
      rw [nt_cnt_f hz, nt_cnt_t nt_us, nt_cnt_out (Nat.le_refl _)]
    · have en : upd f p 0 n = f n := nt_un e
      have i := ih (by omega)
      by_cases z : f n = 0
      · rw [nt_cnt_t z, nt_cnt_t (en.trans z), i]
      · rw [nt_cnt_f z, nt_cnt_f (by rw [en]; exact z), i]

/-! the relation: the same places, the same spots, the same dense marks; the count is the number of points; the spots lie within 100 -/
def nt_ok (x : Int32) : Prop := -100 ≤ x.toInt ∧ x.toInt ≤ 100
def i_Rel (_ : Nat) (u : SX) (v : SY) : Prop :=
  ∃ xs ys tk dn cl gr : Nat → Int32, u = (nI (nt_cnt tk 24), xs, ys, tk, dn, cl) ∧ v = (tk, xs, ys, dn, gr) ∧ ∀ i, nt_ok (xs i) ∧ nt_ok (ys i)
theorem i_up {k : Nat} {u : SX} {v : SY} (h : i_Rel k u v) : i_Rel (k + 5) u v := h
theorem nt_ok0 : nt_ok 0 := by unfold nt_ok; decide
theorem i_vc0 : wpX_init (fun u => wpY_init (fun v => i_Rel 0 u v)) :=
  ⟨fun _ => 0, fun _ => 0, fun _ => 0, fun _ => 0, fun _ => 0, fun _ => 0, by
    have h : ∀ n, nt_cnt (fun _ => 0) n = 0 := by
      intro n
      induction n with
      | zero => rfl
      | succ n ih => rw [nt_cnt_t rfl, ih]
    rw [h, nI_0], rfl, fun _ => ⟨nt_ok0, nt_ok0⟩⟩

/-! distance -/
def nt_d (xs ys : Nat → Int32) (p : Nat) (x y : Int32) : Int32 := (xs p - x) * (xs p - x) + (ys p - y) * (ys p - y)
theorem nt_dX {post : Int32 → Prop} {c : Int32} {xs ys tk dn cl : Nat → Int32} {p : Nat} {x y : Int32} (hp : p < 24) (h : post (nt_d xs ys p x y)) : wpX_distanceFrom post (c, xs, ys, tk, dn, cl) (nI p) x y := by
  unfold wpX_distanceFrom
  dsimp only
  rw [nt_cl hp]
  exact ⟨nt_in hp, nm_e ⟨nt_in hp, nm_e h⟩⟩
theorem nt_dY {post : Int32 → Prop} {tk xs ys dn gr : Nat → Int32} {p : Nat} {x y : Int32} (hp : p < 24) (h : post (nt_d xs ys p x y)) : wpY_distance post (tk, xs, ys, dn, gr) (nI p) x y := by
  unfold wpY_distance
  dsimp only
  rw [nt_cl hp]
  exact ⟨nt_in hp, nt_in hp, nt_in hp, nt_in hp, h⟩
theorem nt_sq (a b : Int32) : (a - b) * (a - b) = (b - a) * (b - a) := by grind
theorem nt_dsym (xs ys : Nat → Int32) (p q : Nat) : nt_d xs ys p (xs q) (ys q) = nt_d xs ys q (xs p) (ys p) := by
  unfold nt_d
  rw [nt_sq (xs p) (xs q), nt_sq (ys p) (ys q)]
/-- a spot within 100 of the middle, told apart by Java's comparisons -/
def nt_out (x y m : Int32) : Prop := x < -m ∨ m < x ∨ y < -m ∨ m < y
theorem nt_outX {post : Int32 → Prop} {x y m : Int32} (h : nt_out x y m) (hp : post 1) : wpX_isOutside post x y m := by
  refine br_c (fun _ => hp) fun a => br_c (fun _ => hp) fun b => br_c (fun _ => hp) fun e => br_c (fun f => ?_) (fun _ => hp)
  rcases h with h | h | h | h
  · exact absurd h a
  · exact absurd h b
  · exact absurd h e
  · exact absurd h (Int32.not_lt.mpr f)
theorem nt_insX {post : Int32 → Prop} {x y m : Int32} (h : ¬ nt_out x y m) (hp : post 0) : wpX_isOutside post x y m := by
  refine br_f (fun z => h (Or.inl z)) (br_f (fun z => h (Or.inr (Or.inl z))) (br_f (fun z => h (Or.inr (Or.inr (Or.inl z)))) (br_t ?_ hp)))
  exact Int32.not_lt.mp (fun z => h (Or.inr (Or.inr (Or.inr z))))
theorem nt_outY {post : Int32 → Prop} {v : SY} {x y m : Int32} (h : nt_out x y m) (hp : post 0) : wpY_isSpot post v x y m := by
  refine br_c (fun _ => hp) fun a => br_c (fun _ => hp) fun b => br_c (fun _ => hp) fun e => br_c (fun _ => hp) fun f => ?_
  rcases h with h | h | h | h
  · exact absurd h a
  · exact absurd h b
  · exact absurd h e
  · exact absurd h f
theorem nt_insY {post : Int32 → Prop} {v : SY} {x y m : Int32} (h : ¬ nt_out x y m) (hp : post 1) : wpY_isSpot post v x y m :=
  br_f (fun z => h (Or.inl z)) (br_f (fun z => h (Or.inr (Or.inl z))) (br_f (fun z => h (Or.inr (Or.inr (Or.inl z)))) (br_f (fun z => h (Or.inr (Or.inr (Or.inr z)))) hp)))
theorem nt_okof {x y : Int32} (h : ¬ nt_out x y 100) : nt_ok x ∧ nt_ok y := by
  unfold nt_out at h
  simp only [Int32.lt_iff_toInt_lt] at h
  have e : (-(100 : Int32)).toInt = -100 := by decide
  have f : (100 : Int32).toInt = 100 := by decide
  rw [e, f] at h
  unfold nt_ok
  omega
/-- the place holds a point -/
def nt_has (tk : Nat → Int32) (x : Int32) : Prop := ∃ p : Nat, p < 24 ∧ x = nI p ∧ ¬ tk p = 0
theorem nt_ix (x : Int32) : x < 0 ∨ ((24 : Int32) ≤ x) ∨ ∃ p : Nat, p < 24 ∧ x = nI p := by
  by_cases h : x < 0
  · exact Or.inl h
  · obtain ⟨j, hj, rfl⟩ := nI_of h
    by_cases g : j < 24
    · exact Or.inr (Or.inr ⟨j, g, rfl⟩)
    · exact Or.inr (Or.inl (by rw [← nt_24]; exact nI_le (by omega) hj))
theorem nt_hasX {post : Int32 → Prop} {c : Int32} {xs ys tk dn cl : Nat → Int32} {p : Nat} (hp : p < 24) (h : ¬ tk p = 0) (h1 : post 1) : wpX_hasPoint post (c, xs, ys, tk, dn, cl) (nI p) :=
  br_f (nI_pos (by omega)) (br_f (nt_ge hp) ⟨nt_in hp, br_f (by rw [nt_cl hp]; exact h) h1⟩)
theorem nt_nasX {post : Int32 → Prop} {c : Int32} {xs ys tk dn cl : Nat → Int32} {x : Int32} (h : ¬ nt_has tk x) (h0 : post 0) : wpX_hasPoint post (c, xs, ys, tk, dn, cl) x := by
  rcases nt_ix x with g | g | ⟨p, hp, rfl⟩
  · exact br_t g h0
  · exact br_c (fun _ => h0) fun _ => br_t g h0
  · refine br_c (fun _ => h0) fun _ => br_c (fun _ => h0) fun _ => ⟨nt_in hp, br_c (fun _ => h0) fun z => ?_⟩
    rw [nt_cl hp] at z
    exact absurd ⟨p, hp, rfl, z⟩ h
theorem nt_g23 {j : Nat} (h : j < 24) : ¬ (23 : Int32) < nI j := by rw [← nt_23]; exact nI_nlt (by omega) (by decide)
theorem nt_hasY {post : Int32 → Prop} {xs ys tk dn gr : Nat → Int32} {p : Nat} (hp : p < 24) (h : ¬ tk p = 0) (h1 : post 1) : wpY_isPoint post (tk, xs, ys, dn, gr) (nI p) :=
  br_f (nI_pos (by omega)) (br_f (nt_g23 hp) ⟨nt_in hp, br_f (by rw [nt_cl hp]; exact h) h1⟩)
theorem nt_nasY {post : Int32 → Prop} {xs ys tk dn gr : Nat → Int32} {x : Int32} (h : ¬ nt_has tk x) (h0 : post 0) : wpY_isPoint post (tk, xs, ys, dn, gr) x := by
  rcases nt_ix x with g | g | ⟨p, hp, rfl⟩
  · exact br_t g h0
  · refine br_c (fun _ => h0) fun _ => br_t ?_ h0
    rw [Int32.lt_iff_toInt_lt]
    rw [Int32.le_iff_toInt_le] at g
    have e : (24 : Int32).toInt = 24 := by decide
    have f : (23 : Int32).toInt = 23 := by decide
    omega
  · refine br_c (fun _ => h0) fun _ => br_c (fun _ => h0) fun _ => ⟨nt_in hp, br_c (fun _ => h0) fun z => ?_⟩
    rw [nt_cl hp] at z
    exact absurd ⟨p, hp, rfl, z⟩ h
end
section
/-! size -/
theorem nt_sizeY (xs ys tk dn gr : Nat → Int32) (post : Int32 → Prop) (hp : post (nI (nt_cnt tk 24))) : ∀ d j : Nat, j + d = 24 → wY_size_4 post tk xs ys dn gr (d + 1) (nI (nt_cnt tk j)) (nI j) := by
  intro d
  induction d with
  | zero =>
    intro j hj
    cases (by omega : j = 24)
    exact br_t nt_end hp
  | succ d ih =>
    intro j hj
    have hl : j < 24 := by omega
    by_cases z : tk j = 0
    · have i := ih (j + 1) (by omega)
      rw [nt_cnt_t z] at i
      exact br_f (nt_ge hl) ⟨nt_in hl, br_t (by rw [nt_cl hl]; exact z) (nm_r (nI_1 j) i)⟩
    · have i := ih (j + 1) (by omega)
      rw [nt_cnt_f z] at i
      exact br_f (nt_ge hl) ⟨nt_in hl, br_f (by rw [nt_cl hl]; exact z) (nm_r (nI_1 _) (nm_r (nI_1 j) i))⟩
theorem nt_sizeW {xs ys tk dn gr : Nat → Int32} {post : Int32 → Prop} (hp : post (nI (nt_cnt tk 24))) : wpY_size post (tk, xs, ys, dn, gr) :=
  ⟨25, nt_sizeY xs ys tk dn gr post hp 24 0 rfl⟩

/-! counting the near points, in lockstep -/
theorem nt_near0 (c : Int32) (xs ys tk dn cl gr : Nat → Int32) (x y r2 : Int32) : ∀ d j : Nat, j + d = 24 → ∀ acc : Int32, ∃ r : Int32, (∀ post : Int32 → Prop, post r → wX_countNear_6 post x y r2 c xs ys tk dn cl (d + 1) acc (nI j)) ∧ (∀ post : Int32 → Prop, post r → wY_near_6 post x y r2 tk xs ys dn gr (d + 1) acc (nI j)) := by
  intro d
  induction d with
  | zero =>
    intro j hj acc
    cases (by omega : j = 24)
    exact ⟨acc, fun _ hp => br_t nt_end hp, fun _ hp => br_t nt_end hp⟩
  | succ d ih =>
    intro j hj acc
    have hl : j < 24 := by omega
    have h := nt_ge hl
    have hi := nt_in hl
    by_cases z : tk (nI j).toNatClampNeg = 0
    · obtain ⟨r, hX, hY⟩ := ih (j + 1) (by omega) acc
      exact ⟨r, fun post hp => br_f h ⟨hi, br_t z (nm_r (nI_1 j) (hX post hp))⟩, fun post hp => br_f h ⟨hi, br_t z (nm_r (nI_1 j) (hY post hp))⟩⟩
    · by_cases w : r2 < nt_d xs ys j x y
      · obtain ⟨r, hX, hY⟩ := ih (j + 1) (by omega) acc
        exact ⟨r, fun post hp => br_f h ⟨hi, br_f z (nt_dX hl (br_t w (nm_r (nI_1 j) (hX post hp))))⟩, fun post hp => br_f h ⟨hi, br_f z (nt_dY hl (br_t w (nm_r (nI_1 j) (hY post hp))))⟩⟩
      · obtain ⟨r, hX, hY⟩ := ih (j + 1) (by omega) (acc + 1)
        exact ⟨r, fun post hp => br_f h ⟨hi, br_f z (nt_dX hl (br_f w (nm_e (nm_r (nI_1 j) (hX post hp)))))⟩, fun post hp => br_f h ⟨hi, br_f z (nt_dY hl (br_f w (nm_e (nm_r (nI_1 j) (hY post hp)))))⟩⟩
theorem nt_near (c : Int32) (xs ys tk dn cl gr : Nat → Int32) (x y r2 : Int32) : ∃ r : Int32, (∀ post : Int32 → Prop, post r → wpX_countNear post (c, xs, ys, tk, dn, cl) x y r2) ∧ (∀ post : Int32 → Prop, post r → wpY_near post (tk, xs, ys, dn, gr) x y r2) := by
  obtain ⟨r, hX, hY⟩ := nt_near0 c xs ys tk dn cl gr x y r2 24 0 rfl 0
  exact ⟨r, fun post hp => ⟨25, hX post hp⟩, fun post hp => ⟨25, hY post hp⟩⟩

/-! the rank, in lockstep -/
theorem nt_rank0 (c : Int32) (xs ys tk dn cl gr : Nat → Int32) (p x y own : Int32) : ∀ d j : Nat, j + d = 24 → ∀ acc : Int32, ∃ r : Int32, (∀ post : Int32 → Prop, post r → wX_rankOf_15 post p x y own c xs ys tk dn cl (d + 1) acc (nI j)) ∧ (∀ post : Int32 → Prop, post r → wY_rank_15 post p x y own tk xs ys dn gr (d + 1) acc (nI j)) := by
  intro d
  induction d with
  | zero =>
    intro j hj acc
    cases (by omega : j = 24)
    exact ⟨acc, fun _ hp => br_t nt_end hp, fun _ hp => br_t nt_end hp⟩
  | succ d ih =>
    intro j hj acc
    have hl : j < 24 := by omega
    have h := nt_ge hl
    have hi := nt_in hl
    by_cases z : tk (nI j).toNatClampNeg = 0
    · obtain ⟨r, hX, hY⟩ := ih (j + 1) (by omega) acc
      refine ⟨r, fun post hp => br_f h (nt_dX hl ?_), fun post hp => br_f h (nt_dY hl ⟨hi, br_t z (nm_r (nI_1 j) (hY post hp))⟩)⟩
      have K : ∀ z0 : Int32, wX_rankOf_57 post (wX_rankOf_15 post p x y own c xs ys tk dn cl (d + 1)) p x y own acc (nI j) z0 c xs ys tk dn cl := fun z0 => ⟨hi, br_t z (nm_r (nI_1 j) (hX post hp))⟩
      exact br_c (fun _ => K 1) (fun _ => br_c (fun _ => br_c (fun _ => K 0) (fun _ => K 1)) (fun _ => K 0))
    · by_cases b1 : nt_d xs ys j x y < own
      · obtain ⟨r, hX, hY⟩ := ih (j + 1) (by omega) (acc + 1)
        exact ⟨r, fun post hp => br_f h (nt_dX hl (br_t b1 ⟨hi, br_f z (br_f nt_10 (nm_e (nm_r (nI_1 j) (hX post hp))))⟩)), fun post hp => br_f h (nt_dY hl ⟨hi, br_f z (br_t b1 (nm_e (nm_r (nI_1 j) (hY post hp))))⟩)⟩
      · by_cases b2 : nt_d xs ys j x y = own
        · by_cases b3 : p ≤ nI j
          · obtain ⟨r, hX, hY⟩ := ih (j + 1) (by omega) acc
            exact ⟨r, fun post hp => br_f h (nt_dX hl (br_f b1 (br_t b2 (br_t b3 ⟨hi, br_f z (br_t rfl (nm_r (nI_1 j) (hX post hp)))⟩)))), fun post hp => br_f h (nt_dY hl ⟨hi, br_f z (br_f b1 (br_t b2 (br_t b3 (nm_r (nI_1 j) (hY post hp)))))⟩)⟩
          · obtain ⟨r, hX, hY⟩ := ih (j + 1) (by omega) (acc + 1)
            exact ⟨r, fun post hp => br_f h (nt_dX hl (br_f b1 (br_t b2 (br_f b3 ⟨hi, br_f z (br_f nt_10 (nm_e (nm_r (nI_1 j) (hX post hp))))⟩)))), fun post hp => br_f h (nt_dY hl ⟨hi, br_f z (br_f b1 (br_t b2 (br_f b3 (nm_e (nm_r (nI_1 j) (hY post hp))))))⟩)⟩
        · obtain ⟨r, hX, hY⟩ := ih (j + 1) (by omega) acc
          exact ⟨r, fun post hp => br_f h (nt_dX hl (br_f b1 (br_f b2 ⟨hi, br_f z (br_t rfl (nm_r (nI_1 j) (hX post hp)))⟩))), fun post hp => br_f h (nt_dY hl ⟨hi, br_f z (br_f b1 (br_f b2 (nm_r (nI_1 j) (hY post hp))))⟩)⟩
theorem nt_rank (c : Int32) (xs ys tk dn cl gr : Nat → Int32) {p : Nat} (hp : p < 24) (x y : Int32) : ∃ r : Int32, (∀ post : Int32 → Prop, post r → wpX_rankOf post (c, xs, ys, tk, dn, cl) (nI p) x y) ∧ (∀ post : Int32 → Prop, post r → wpY_rank post (tk, xs, ys, dn, gr) (nI p) x y) := by
  obtain ⟨r, hX, hY⟩ := nt_rank0 c xs ys tk dn cl gr (nI p) x y (nt_d xs ys p x y) 24 0 rfl 0
  refine ⟨r, fun post h => ?_, fun post h => ?_⟩
  · unfold wpX_rankOf
    dsimp only
    exact nt_dX hp ⟨25, hX post h⟩
  · unfold wpY_rank
    dsimp only
    exact nt_dY hp ⟨25, hY post h⟩
theorem nt_nst0 (c : Int32) (xs ys tk dn cl gr : Nat → Int32) (x y k : Int32) : ∀ d j : Nat, j + d = 24 → ∃ r : Int32, (∀ post : Int32 → Prop, post r → wX_nearest_16 post x y k c xs ys tk dn cl (d + 1) (nI j)) ∧ (∀ post : Int32 → Prop, post r → wY_nearest_17 post x y k tk xs ys dn gr (d + 1) (nI j)) := by
  intro d
  induction d with
  | zero =>
    intro j hj
    cases (by omega : j = 24)
    exact ⟨-3, fun _ hp => br_t nt_end hp, fun _ hp => br_t nt_end hp⟩
  | succ d ih =>
    intro j hj
    have hl : j < 24 := by omega
    have h := nt_ge hl
    have hi := nt_in hl
    obtain ⟨r, hX, hY⟩ := ih (j + 1) (by omega)
    by_cases z : tk (nI j).toNatClampNeg = 0
    · exact ⟨r, fun post hp => br_f h ⟨hi, br_t z (nm_r (nI_1 j) (hX post hp))⟩, fun post hp => br_f h ⟨hi, br_t z (nm_r (nI_1 j) (hY post hp))⟩⟩
    · obtain ⟨s, sX, sY⟩ := nt_rank c xs ys tk dn cl gr hl x y
      by_cases w : s = k
      · exact ⟨nI j, fun post hp => br_f h ⟨hi, br_f z (sX _ (br_t w hp))⟩, fun post hp => br_f h ⟨hi, br_f z (sY _ (br_t w hp))⟩⟩
      · exact ⟨r, fun post hp => br_f h ⟨hi, br_f z (sX _ (br_f w (nm_r (nI_1 j) (hX post hp))))⟩, fun post hp => br_f h ⟨hi, br_f z (sY _ (br_f w (nm_r (nI_1 j) (hY post hp))))⟩⟩

/-! the box, in lockstep -/
theorem nt_box0 (c : Int32) (xs ys tk dn cl gr : Nat → Int32) (x1 x2 x3 x4 : Int32) : ∀ d j : Nat, j + d = 24 → ∀ acc : Int32, ∃ r : Int32, (∀ post : Int32 → Prop, post r → wX_inBox_6 post x1 x2 x3 x4 c xs ys tk dn cl (d + 1) acc (nI j)) ∧ (∀ post : Int32 → Prop, post r → wY_inBox_6 post x1 x2 x3 x4 tk xs ys dn gr (d + 1) acc (nI j)) := by
  intro d
  induction d with
  | zero =>
    intro j hj acc
    cases (by omega : j = 24)
    exact ⟨acc, fun _ hp => br_t nt_end hp, fun _ hp => br_t nt_end hp⟩
  | succ d ih =>
    intro j hj acc
    have hl : j < 24 := by omega
    have h := nt_ge hl
    have hi := nt_in hl
    obtain ⟨r, hX, hY⟩ := ih (j + 1) (by omega) acc
    by_cases z : tk (nI j).toNatClampNeg = 0
    · refine ⟨r, fun post hp => br_f h ?_, fun post hp => br_f h ⟨hi, br_t z (nm_r (nI_1 j) (hY post hp))⟩⟩
      have K : ∀ x7 z0 : Int32, wX_inBox_70 post (wX_inBox_6 post x1 x2 x3 x4 c xs ys tk dn cl (d + 1)) x1 x2 x3 x4 acc (nI j) x7 z0 c xs ys tk dn cl := fun x7 z0 => ⟨hi, br_t z (nm_r (nI_1 j) (hX post hp))⟩
      have K4 : ∀ x7 : Int32, wX_inBox_40 post (wX_inBox_6 post x1 x2 x3 x4 c xs ys tk dn cl (d + 1)) x1 x2 x3 x4 acc (nI j) x7 c xs ys tk dn cl := fun x7 => ⟨hi, br_c (fun _ => K x7 0) (fun _ => ⟨hi, br_c (fun _ => K x7 0) (fun _ => K x7 1)⟩)⟩
      exact ⟨hi, br_c (fun _ => K4 0) (fun _ => ⟨hi, br_c (fun _ => K4 0) (fun _ => K4 1)⟩)⟩
    · have K0 : ∀ post : Int32 → Prop, post r → ∀ x7 z0 : Int32, (x7 = 0 ∨ z0 = 0) → wX_inBox_70 post (wX_inBox_6 post x1 x2 x3 x4 c xs ys tk dn cl (d + 1)) x1 x2 x3 x4 acc (nI j) x7 z0 c xs ys tk dn cl := fun post hp x7 z0 hz => ⟨hi, br_f z (br_c (fun _ => nm_r (nI_1 j) (hX post hp)) (fun g => br_t (hz.resolve_left g) (nm_r (nI_1 j) (hX post hp))))⟩
      have K4 : ∀ post : Int32 → Prop, post r → wX_inBox_40 post (wX_inBox_6 post x1 x2 x3 x4 c xs ys tk dn cl (d + 1)) x1 x2 x3 x4 acc (nI j) 0 c xs ys tk dn cl := fun post hp => ⟨hi, br_c (fun _ => K0 post hp 0 0 (Or.inl rfl)) (fun _ => ⟨hi, br_c (fun _ => K0 post hp 0 0 (Or.inl rfl)) (fun _ => K0 post hp 0 1 (Or.inl rfl))⟩)⟩
      by_cases b1 : xs (nI j).toNatClampNeg < x1
      · exact ⟨r, fun post hp => br_f h ⟨hi, br_t b1 (K4 post hp)⟩, fun post hp => br_f h ⟨hi, br_f z ⟨hi, br_t b1 (nm_r (nI_1 j) (hY post hp))⟩⟩⟩
      · by_cases b2 : x2 < xs (nI j).toNatClampNeg
        · exact ⟨r, fun post hp => br_f h ⟨hi, br_f b1 ⟨hi, br_t b2 (K4 post hp)⟩⟩, fun post hp => br_f h ⟨hi, br_f z ⟨hi, br_f b1 ⟨hi, br_t b2 (nm_r (nI_1 j) (hY post hp))⟩⟩⟩⟩
        · by_cases b3 : ys (nI j).toNatClampNeg < x3
          · exact ⟨r, fun post hp => br_f h ⟨hi, br_f b1 ⟨hi, br_f b2 ⟨hi, br_t b3 (K0 post hp 1 0 (Or.inr rfl))⟩⟩⟩, fun post hp => br_f h ⟨hi, br_f z ⟨hi, br_f b1 ⟨hi, br_f b2 ⟨hi, br_t b3 (nm_r (nI_1 j) (hY post hp))⟩⟩⟩⟩⟩
          · by_cases b4 : x4 < ys (nI j).toNatClampNeg
            · exact ⟨r, fun post hp => br_f h ⟨hi, br_f b1 ⟨hi, br_f b2 ⟨hi, br_f b3 ⟨hi, br_t b4 (K0 post hp 1 0 (Or.inr rfl))⟩⟩⟩⟩, fun post hp => br_f h ⟨hi, br_f z ⟨hi, br_f b1 ⟨hi, br_f b2 ⟨hi, br_f b3 ⟨hi, br_t b4 (nm_r (nI_1 j) (hY post hp))⟩⟩⟩⟩⟩⟩
            · obtain ⟨s, sX, sY⟩ := ih (j + 1) (by omega) (acc + 1)
              exact ⟨s, fun post hp => br_f h ⟨hi, br_f b1 ⟨hi, br_f b2 ⟨hi, br_f b3 ⟨hi, br_f b4 ⟨hi, br_f z (br_f nt_10 (br_f nt_10 (nm_e (nm_r (nI_1 j) (sX post hp)))))⟩⟩⟩⟩⟩, fun post hp => br_f h ⟨hi, br_f z ⟨hi, br_f b1 ⟨hi, br_f b2 ⟨hi, br_f b3 ⟨hi, br_f b4 (nm_e (nm_r (nI_1 j) (sY post hp)))⟩⟩⟩⟩⟩⟩
end
section
/-! add -/
theorem nt_put {post : Int32 → SX → Prop} {c : Int32} {xs ys tk dn cl : Nat → Int32} {f : Nat} {x y : Int32} (hf : f < 24) (h : post (nI f) (c + 1, upd xs f x, upd ys f y, upd tk f 1, dn, cl)) : wX_add_47 post x y (nI f) c xs ys tk dn cl := by
  unfold wX_add_47
  rw [nt_cl hf, nt_b1]
  exact ⟨nt_in hf, nm_e ⟨nt_in hf, nm_e ⟨nt_in hf, nm_e (nm_e h)⟩⟩⟩
theorem nt_g22 {j : Nat} (h : j < 23) : ¬ (23 : Int32) ≤ nI j := by rw [← nt_23]; exact nI_ge h (by decide)
theorem nt_addX {post : Int32 → SX → Prop} {c : Int32} {xs ys tk dn cl : Nat → Int32} {f : Nat} {x y : Int32} (hf : f < 24) (hz : tk f = 0) (hq : ∀ q, q < f → ¬ tk q = 0) (h : wX_add_47 post x y (nI f) c xs ys tk dn cl) : ∀ d j : Nat, j + d = f → wX_add_26 post x y c xs ys tk dn cl (d + 1) (nI j) := by
  intro d
  induction d with
  | zero =>
    intro j hj
    have e : j = f := by omega
    subst e
    exact br_c (fun _ => h) (fun _ => ⟨nt_in hf, br_t (by rw [nt_cl hf]; exact hz) h⟩)
  | succ d ih =>
    intro j hj
    have hl : j < 24 := by omega
    exact br_f (nt_g22 (by omega)) ⟨nt_in hl, br_f (by rw [nt_cl hl]; exact hq j (by omega)) (nm_r (nI_1 j) (ih (j + 1) (by omega)))⟩
theorem nt_addY {post : Int32 → SY → Prop} {xs ys tk dn gr : Nat → Int32} {f : Nat} {x y : Int32} (hf : f ≤ 24) (hq : ∀ q, q < f → ¬ tk q = 0) (h : wY_add_2 post x y tk xs ys dn gr 1 (nI f)) : ∀ d j : Nat, j + d = f → wY_add_2 post x y tk xs ys dn gr (d + 1) (nI j) := by
  intro d
  induction d with
  | zero =>
    intro j hj
    have e : j = f := by omega
    subst e
    exact h
  | succ d ih =>
    intro j hj
    have hl : j < 24 := by omega
    exact br_f (nt_ge hl) ⟨nt_in hl, br_f (by rw [nt_cl hl]; exact hq j (by omega)) (nm_r (nI_1 j) (ih (j + 1) (by omega)))⟩
theorem nt_first (tk : Nat → Int32) : ∀ n, (∀ q, q < n → ¬ tk q = 0) ∨ ∃ f, f < n ∧ tk f = 0 ∧ ∀ q, q < f → ¬ tk q = 0 := by
  intro n
  induction n with
  | zero => exact Or.inl (fun q hq => absurd hq (Nat.not_lt_zero q))
  | succ n ih =>
    rcases ih with h | ⟨f, hf, hz, hq⟩
    · by_cases z : tk n = 0
      · exact Or.inr ⟨n, by omega, z, h⟩
      · refine Or.inl (fun q hq => ?_)
        by_cases e : q = n
        · rw [e]; exact z
        · exact h q (by omega)
    · exact Or.inr ⟨f, by omega, hz, hq⟩
theorem nt_okupd {xs : Nat → Int32} {f : Nat} {x : Int32} (h : ∀ i, nt_ok (xs i)) (hx : nt_ok x) (i : Nat) : nt_ok (upd xs f x i) := by
  by_cases e : i = f
  · rw [e, nt_us]; exact hx
  · rw [nt_un e]; exact h i
theorem nt_okput {xs ys : Nat → Int32} {f : Nat} {x y : Int32} (ok : ∀ i, nt_ok (xs i) ∧ nt_ok (ys i)) (h : ¬ nt_out x y 100) (i : Nat) : nt_ok (upd xs f x i) ∧ nt_ok (upd ys f y i) :=
  ⟨nt_okupd (fun i => (ok i).1) (nt_okof h).1 i, nt_okupd (fun i => (ok i).2) (nt_okof h).2 i⟩
theorem i_vc_add {k : Nat} {u : SX} {v : SY} (I : i_Rel k u v) (hk : k + 5 ≤ 2560) (v1 : Int32) (v2 : Int32) : wpX_add (fun r u' => wpY_add (fun r' v' => r' = r ∧ i_Rel (k + 5) u' v') v v1 v2) u v1 v2 := by
  obtain ⟨xs, ys, tk, dn, cl, gr, rfl, rfl, ok⟩ := I
  rcases nt_first tk 24 with ha | ⟨f, hf, hz, hq⟩
  · have hn : ¬ nI (nt_cnt tk 24) < 24 := by
      rw [nt_cnt_all ha, ← nt_24]
      exact nI_nlt (Nat.le_refl _) (by decide)
    exact br_f hn ⟨25, nt_addY (Nat.le_refl _) ha (br_t nt_end ⟨rfl, xs, ys, tk, dn, cl, gr, rfl, rfl, ok⟩) 24 0 rfl⟩
  · have hn : nI (nt_cnt tk 24) < 24 := by
      rw [← nt_24]
      exact nI_lt (nt_cnt_lt hf hz) (by decide)
    by_cases ho : nt_out v1 v2 100
    · refine br_t hn (nt_outX ho (br_f nt_10 ⟨f + 1, nt_addY (f := f) (by omega) hq ?_ f 0 (by omega)⟩))
      exact br_f (nt_ge hf) ⟨nt_in hf, br_t (by rw [nt_cl hf]; exact hz) (nt_outY ho (br_t rfl ⟨rfl, xs, ys, tk, dn, cl, gr, rfl, rfl, ok⟩))⟩
    · refine br_t hn (nt_insX ho (br_t rfl ⟨f + 1, nt_addX hf hz hq (nt_put hf ⟨f + 1, nt_addY (f := f) (by omega) hq ?_ f 0 (by omega)⟩) f 0 (by omega)⟩))
      refine br_f (nt_ge hf) ⟨nt_in hf, br_t (by rw [nt_cl hf]; exact hz) (nt_insY ho (br_f nt_10 ?_))⟩
      rw [nt_cl hf, nt_b1]
      refine ⟨nt_in hf, nm_e ⟨nt_in hf, nm_e ⟨nt_in hf, nm_e ⟨rfl, upd xs f v1, upd ys f v2, upd tk f 1, dn, cl, gr, ?_, rfl, nt_okput ok ho⟩⟩⟩⟩
      rw [nI_1, nt_cnt_put hf hz nt_10]

/-! remove, move, size -/
theorem i_vc_remove {k : Nat} {u : SX} {v : SY} (I : i_Rel k u v) (hk : k + 5 ≤ 2560) (v1 : Int32) : wpX_remove (fun r u' => wpY_remove (fun r' v' => r' = r ∧ i_Rel (k + 5) u' v') v v1) u v1 := by
  obtain ⟨xs, ys, tk, dn, cl, gr, rfl, rfl, ok⟩ := I
  unfold wpX_remove wpY_remove
  dsimp only
  by_cases h : nt_has tk v1
  · obtain ⟨p, hp, rfl, hz⟩ := h
    have e : nI (nt_cnt tk 24) - 1 = nI (nt_cnt (upd tk p 0) 24) := by
      rw [← nt_cnt_del hp hz]
      exact nI_pred _
    refine nt_hasX hp hz (br_f nt_10 ?_)
    rw [nt_cl hp, nt_b0]
    exact ⟨nt_in hp, nm_e (nm_r e (nt_hasY hp hz (br_f nt_10 ⟨nt_in hp, nm_e (nt_sizeW ⟨rfl, xs, ys, upd tk p 0, dn, cl, gr, rfl, rfl, ok⟩)⟩)))⟩
  · exact nt_nasX h (br_t rfl (nt_nasY h (br_t rfl ⟨rfl, xs, ys, tk, dn, cl, gr, rfl, rfl, ok⟩)))
theorem i_vc_move {k : Nat} {u : SX} {v : SY} (I : i_Rel k u v) (hk : k + 5 ≤ 2560) (v1 : Int32) (v2 : Int32) (v3 : Int32) : wpX_move (fun r u' => wpY_move (fun r' v' => r' = r ∧ i_Rel (k + 5) u' v') v v1 v2 v3) u v1 v2 v3 := by
  obtain ⟨xs, ys, tk, dn, cl, gr, rfl, rfl, ok⟩ := I
  unfold wpX_move wpY_move
  dsimp only
  by_cases h : nt_has tk v1
  · obtain ⟨p, hp, rfl, hz⟩ := h
    by_cases ho : nt_out v2 v3 100
    · exact nt_hasX hp hz (br_f nt_10 (nt_outX ho (br_f nt_10 (nt_hasY hp hz (br_f nt_10 (nt_outY ho (br_t rfl ⟨rfl, xs, ys, tk, dn, cl, gr, rfl, rfl, ok⟩)))))))
    · refine nt_hasX hp hz (br_f nt_10 (nt_insX ho (br_t rfl (nt_dX hp ?_))))
      rw [nt_cl hp]
      exact ⟨nt_in hp, nm_e ⟨nt_in hp, nm_e (nt_hasY hp hz (br_f nt_10 (nt_insY ho (br_f nt_10 (nt_dY hp ⟨nt_in hp, nm_e ⟨nt_in hp, nm_e ⟨rfl, upd xs p v2, upd ys p v3, tk, dn, cl, gr, rfl, rfl, nt_okput ok ho⟩⟩⟩)))))⟩⟩
  · exact nt_nasX h (br_t rfl (nt_nasY h (br_t rfl ⟨rfl, xs, ys, tk, dn, cl, gr, rfl, rfl, ok⟩)))
theorem i_vc_size {k : Nat} {u : SX} {v : SY} (I : i_Rel k u v) (hk : k + 5 ≤ 2560) : wpX_size (fun r => wpY_size (fun r' => r' = r ∧ i_Rel (k + 5) u v) v) u := by
  obtain ⟨xs, ys, tk, dn, cl, gr, rfl, rfl, ok⟩ := I
  unfold wpX_size
  dsimp only
  exact nt_sizeW ⟨rfl, xs, ys, tk, dn, cl, gr, rfl, rfl, ok⟩

/-! nearest, within, inBox -/
theorem i_vc_nearest {k : Nat} {u : SX} {v : SY} (I : i_Rel k u v) (hk : k + 5 ≤ 2560) (v1 : Int32) (v2 : Int32) (v3 : Int32) : wpX_nearest (fun r => wpY_nearest (fun r' => r' = r ∧ i_Rel (k + 5) u v) v v1 v2 v3) u v1 v2 v3 := by
  obtain ⟨xs, ys, tk, dn, cl, gr, rfl, rfl, ok⟩ := I
  unfold wpX_nearest wpY_nearest
  dsimp only
  by_cases ho : nt_out v1 v2 200
  · exact nt_outX ho (br_f nt_10 (nt_outY ho (br_t rfl ⟨rfl, xs, ys, tk, dn, cl, gr, rfl, rfl, ok⟩)))
  · obtain ⟨r, hX, hY⟩ := nt_nst0 (nI (nt_cnt tk 24)) xs ys tk dn cl gr v1 v2 v3 24 0 rfl
    exact nt_insX ho (br_t rfl ⟨25, hX _ (nt_insY ho (br_f nt_10 ⟨25, hY _ ⟨rfl, xs, ys, tk, dn, cl, gr, rfl, rfl, ok⟩⟩))⟩)
theorem i_vc_within {k : Nat} {u : SX} {v : SY} (I : i_Rel k u v) (hk : k + 5 ≤ 2560) (v1 : Int32) (v2 : Int32) (v3 : Int32) : wpX_within (fun r => wpY_within (fun r' => r' = r ∧ i_Rel (k + 5) u v) v v1 v2 v3) u v1 v2 v3 := by
  obtain ⟨xs, ys, tk, dn, cl, gr, rfl, rfl, ok⟩ := I
  unfold wpX_within wpY_within
  dsimp only
  by_cases ho : nt_out v1 v2 200
  · exact nt_outX ho (br_f nt_10 (nt_outY ho (br_t rfl ⟨rfl, xs, ys, tk, dn, cl, gr, rfl, rfl, ok⟩)))
  · obtain ⟨r, hX, hY⟩ := nt_near (nI (nt_cnt tk 24)) xs ys tk dn cl gr v1 v2 v3
    exact nt_insX ho (br_t rfl (hX _ (nt_insY ho (br_f nt_10 (hY _ ⟨rfl, xs, ys, tk, dn, cl, gr, rfl, rfl, ok⟩)))))
theorem i_vc_inBox {k : Nat} {u : SX} {v : SY} (I : i_Rel k u v) (hk : k + 5 ≤ 2560) (v1 : Int32) (v2 : Int32) (v3 : Int32) (v4 : Int32) : wpX_inBox (fun r => wpY_inBox (fun r' => r' = r ∧ i_Rel (k + 5) u v) v v1 v2 v3 v4) u v1 v2 v3 v4 := by
  obtain ⟨xs, ys, tk, dn, cl, gr, rfl, rfl, ok⟩ := I
  obtain ⟨r, hX, hY⟩ := nt_box0 (nI (nt_cnt tk 24)) xs ys tk dn cl gr v1 v2 v3 v4 24 0 rfl 0
  exact ⟨25, hX _ ⟨25, hY _ ⟨rfl, xs, ys, tk, dn, cl, gr, rfl, rfl, ok⟩⟩⟩
end
section
/-! closest: X and Y go through the same pairs in another order; both keep the least distance so far -/
theorem nt_tosub {x y : Int32} (hx : nt_ok x) (hy : nt_ok y) : (x - y).toInt = x.toInt - y.toInt := by
  unfold nt_ok at hx hy
  rw [Int32.toInt_sub]
  apply Int.bmod_eq_of_le <;> omega
theorem nt_sqb {z : Int} (h1 : -200 ≤ z) (h2 : z ≤ 200) : 0 ≤ z * z ∧ z * z ≤ 40000 := by
  have h : z.natAbs ≤ 200 := by omega
  have m := Nat.mul_le_mul h h
  rw [← Int.natAbs_mul_self]
  omega
theorem nt_sqI {x y : Int32} (hx : nt_ok x) (hy : nt_ok y) : 0 ≤ ((x - y) * (x - y)).toInt ∧ ((x - y) * (x - y)).toInt ≤ 40000 := by
  have b : 0 ≤ (x.toInt - y.toInt) * (x.toInt - y.toInt) ∧ (x.toInt - y.toInt) * (x.toInt - y.toInt) ≤ 40000 := by
    unfold nt_ok at hx hy
    exact nt_sqb (by omega) (by omega)
  rw [Int32.toInt_mul, nt_tosub hx hy, Int.bmod_eq_of_le (by omega) (by omega)]
  exact b
def nt_T (tk : Nat → Int32) (a b : Nat) : Prop := ¬ tk a = 0 ∧ ¬ tk b = 0
def nt_D (xs ys : Nat → Int32) (a b : Nat) : Int32 := nt_d xs ys a (xs b) (ys b)
theorem nt_Dpos {xs ys : Nat → Int32} (ok : ∀ i, nt_ok (xs i) ∧ nt_ok (ys i)) (a b : Nat) : 0 ≤ (nt_D xs ys a b).toInt := by
  have h1 := nt_sqI (ok a).1 (ok b).1
  have h2 := nt_sqI (ok a).2 (ok b).2
  unfold nt_D nt_d
  rw [Int32.toInt_add, Int.bmod_eq_of_le (by omega) (by omega)]
  omega
theorem nt_Dne {xs ys : Nat → Int32} (ok : ∀ i, nt_ok (xs i) ∧ nt_ok (ys i)) (a b : Nat) : ¬ nt_D xs ys a b = -3 := by
  intro h
  have p := nt_Dpos ok a b
  rw [h] at p
  exact absurd p (by decide)
def nt_min (tk xs ys : Nat → Int32) (S : Nat → Nat → Prop) (L : Int32) : Prop :=
  (L = -3 ∧ ∀ a b, S a b → ¬ nt_T tk a b) ∨ ((∃ a b, S a b ∧ nt_T tk a b ∧ L = nt_D xs ys a b) ∧ ∀ a b, S a b → nt_T tk a b → L ≤ nt_D xs ys a b)
theorem nt_min_u {tk xs ys : Nat → Int32} (ok : ∀ i, nt_ok (xs i) ∧ nt_ok (ys i)) {S : Nat → Nat → Prop} {L M : Int32} (h : nt_min tk xs ys S L) (g : nt_min tk xs ys S M) : L = M := by
  rcases h with ⟨h1, h2⟩ | ⟨⟨a, b, h1, h2, h3⟩, h4⟩
  · rcases g with ⟨g1, g2⟩ | ⟨⟨a, b, g1, g2, g3⟩, g4⟩
    · rw [h1, g1]
    · exact absurd g2 (h2 a b g1)
  · rcases g with ⟨g1, g2⟩ | ⟨⟨a', b', g1, g2, g3⟩, g4⟩
    · exact absurd h2 (g2 a b h1)
    · refine Int32.le_antisymm ?_ ?_
      · rw [g3]; exact h4 a' b' g1 g2
      · rw [h3]; exact g4 a b h1 h2
theorem nt_min_c {tk xs ys : Nat → Int32} {S S' : Nat → Nat → Prop} {L : Int32} (hs : ∀ a b, S' a b ↔ S a b) (h : nt_min tk xs ys S L) : nt_min tk xs ys S' L := by
  rcases h with ⟨h1, h2⟩ | ⟨⟨a, b, h1, h2, h3⟩, h4⟩
  · exact Or.inl ⟨h1, fun a b s => h2 a b ((hs a b).mp s)⟩
  · exact Or.inr ⟨⟨a, b, (hs a b).mpr h1, h2, h3⟩, fun a b s => h4 a b ((hs a b).mp s)⟩
theorem nt_min_n {tk xs ys : Nat → Int32} {S S' : Nat → Nat → Prop} {L : Int32} {p q : Nat} (hs : ∀ a b, S' a b ↔ S a b ∨ (a = p ∧ b = q)) (t : ¬ nt_T tk p q) (h : nt_min tk xs ys S L) : nt_min tk xs ys S' L := by
  rcases h with ⟨h1, h2⟩ | ⟨⟨a, b, h1, h2, h3⟩, h4⟩
  · refine Or.inl ⟨h1, fun a b s => ?_⟩
    rcases (hs a b).mp s with s | ⟨rfl, rfl⟩
    · exact h2 a b s
    · exact t
  · refine Or.inr ⟨⟨a, b, (hs a b).mpr (Or.inl h1), h2, h3⟩, fun a b s r => ?_⟩
    rcases (hs a b).mp s with s | ⟨rfl, rfl⟩
    · exact h4 a b s r
    · exact absurd r t
theorem nt_min_0 {tk xs ys : Nat → Int32} (ok : ∀ i, nt_ok (xs i) ∧ nt_ok (ys i)) {S S' : Nat → Nat → Prop} {L : Int32} {p q : Nat} (hs : ∀ a b, S' a b ↔ S a b ∨ (a = p ∧ b = q)) (t : nt_T tk p q) (e : L = -3) (h : nt_min tk xs ys S L) : nt_min tk xs ys S' (nt_D xs ys p q) := by
  rcases h with ⟨h1, h2⟩ | ⟨⟨a, b, h1, h2, h3⟩, h4⟩
  · refine Or.inr ⟨⟨p, q, (hs p q).mpr (Or.inr ⟨rfl, rfl⟩), t, rfl⟩, fun a b s r => ?_⟩
    rcases (hs a b).mp s with s | ⟨rfl, rfl⟩
    · exact absurd r (h2 a b s)
    · exact Int32.le_refl _
  · exact absurd (h3.symm.trans e) (nt_Dne ok a b)
theorem nt_min_k {tk xs ys : Nat → Int32} {S S' : Nat → Nat → Prop} {L : Int32} {p q : Nat} (hs : ∀ a b, S' a b ↔ S a b ∨ (a = p ∧ b = q)) (e : ¬ L = -3) (l : L ≤ nt_D xs ys p q) (h : nt_min tk xs ys S L) : nt_min tk xs ys S' L := by
  rcases h with ⟨h1, h2⟩ | ⟨⟨a, b, h1, h2, h3⟩, h4⟩
  · exact absurd h1 e
  · refine Or.inr ⟨⟨a, b, (hs a b).mpr (Or.inl h1), h2, h3⟩, fun a b s r => ?_⟩
    rcases (hs a b).mp s with s | ⟨rfl, rfl⟩
    · exact h4 a b s r
    · exact l
theorem nt_min_l {tk xs ys : Nat → Int32} {S S' : Nat → Nat → Prop} {L : Int32} {p q : Nat} (hs : ∀ a b, S' a b ↔ S a b ∨ (a = p ∧ b = q)) (t : nt_T tk p q) (e : ¬ L = -3) (l : ¬ L ≤ nt_D xs ys p q) (h : nt_min tk xs ys S L) : nt_min tk xs ys S' (nt_D xs ys p q) := by
  rcases h with ⟨h1, h2⟩ | ⟨⟨a, b, h1, h2, h3⟩, h4⟩
  · exact absurd h1 e
  · refine Or.inr ⟨⟨p, q, (hs p q).mpr (Or.inr ⟨rfl, rfl⟩), t, rfl⟩, fun a b s r => ?_⟩
    rcases (hs a b).mp s with s | ⟨rfl, rfl⟩
    · exact Int32.le_trans (Int32.le_of_lt (Int32.not_le.mp l)) (h4 a b s r)
    · exact Int32.le_refl _
def nt_SX (i j a b : Nat) : Prop := a < b ∧ b < 24 ∧ (a < i ∨ a = i ∧ b < j)
def nt_SY (i j a b : Nat) : Prop := a < b ∧ b < 24 ∧ (b < i ∨ b = i ∧ a < j)
def nt_SA (a b : Nat) : Prop := a < b ∧ b < 24
theorem nt_SXs {i j : Nat} (h : i < j) (hj : j < 24) (a b : Nat) : nt_SX i (j + 1) a b ↔ nt_SX i j a b ∨ (a = i ∧ b = j) := by
  unfold nt_SX; omega
theorem nt_SXe {i : Nat} (a b : Nat) : nt_SX (i + 1) (i + 1 + 1) a b ↔ nt_SX i 24 a b := by
  unfold nt_SX; omega
theorem nt_SXa (a b : Nat) : nt_SA a b ↔ nt_SX 24 25 a b := by
  unfold nt_SA nt_SX; omega
theorem nt_SYs {i j : Nat} (h : j < i) (hi : i < 24) (a b : Nat) : nt_SY i (j + 1) a b ↔ nt_SY i j a b ∨ (a = j ∧ b = i) := by
  unfold nt_SY; omega
theorem nt_SYe {i : Nat} (a b : Nat) : nt_SY (i + 1) 0 a b ↔ nt_SY i i a b := by
  unfold nt_SY; omega
theorem nt_SYa (a b : Nat) : nt_SA a b ↔ nt_SY 24 0 a b := by
  unfold nt_SA nt_SY; omega
theorem nt_cX1 {xs ys tk dn cl : Nat → Int32} (ok : ∀ i, nt_ok (xs i) ∧ nt_ok (ys i)) {c : Int32} {post : Int32 → Prop} {J : Int32 → Int32 → Prop} {i : Nat} (hi : i < 24) (hJ : ∀ L, nt_min tk xs ys (nt_SX i 24) L → J L (nI (i + 1))) : ∀ d j : Nat, j + d = 24 → i < j → ∀ L : Int32, nt_min tk xs ys (nt_SX i j) L → wX_closest_15 post J (nI i) c xs ys tk dn cl (d + 1) L (nI j) := by
  intro d
  induction d with
  | zero =>
    intro j hj _ L h
    have e : j = 24 := by omega
    subst e
    exact br_t nt_end (nm_r (nI_1 i) (hJ L h))
  | succ d ih =>
    intro j hj hij L h
    have hl : j < 24 := by omega
    have hs := nt_SXs hij hl
    by_cases z1 : tk i = 0
    · exact br_f (nt_ge hl) ⟨nt_in hi, br_t (by rw [nt_cl hi]; exact z1) (nm_r (nI_1 j) (ih (j + 1) (by omega) (by omega) L (nt_min_n hs (fun t => t.1 z1) h)))⟩
    · by_cases z2 : tk j = 0
      · exact br_f (nt_ge hl) ⟨nt_in hi, br_f (by rw [nt_cl hi]; exact z1) ⟨nt_in hl, br_t (by rw [nt_cl hl]; exact z2) (nm_r (nI_1 j) (ih (j + 1) (by omega) (by omega) L (nt_min_n hs (fun t => t.2 z2) h)))⟩⟩
      · refine br_f (nt_ge hl) ⟨nt_in hi, br_f (by rw [nt_cl hi]; exact z1) ⟨nt_in hl, br_f (by rw [nt_cl hl]; exact z2) ⟨nt_in hl, nt_in hl, ?_⟩⟩⟩
        rw [nt_cl hl]
        refine nt_dX hi ?_
        by_cases e : L = -3
        · exact br_t e (nm_r (nI_1 j) (ih (j + 1) (by omega) (by omega) _ (nt_min_0 ok hs ⟨z1, z2⟩ e h)))
        · by_cases l : L ≤ nt_D xs ys i j
          · exact br_f e (br_t l (nm_r (nI_1 j) (ih (j + 1) (by omega) (by omega) _ (nt_min_k hs e l h))))
          · exact br_f e (br_f l (nm_r (nI_1 j) (ih (j + 1) (by omega) (by omega) _ (nt_min_l hs ⟨z1, z2⟩ e l h))))
theorem nt_cX2 {xs ys tk dn cl : Nat → Int32} (ok : ∀ i, nt_ok (xs i) ∧ nt_ok (ys i)) {c : Int32} {post : Int32 → Prop} (hp : ∀ L, nt_min tk xs ys nt_SA L → post L) : ∀ d i : Nat, i + d = 24 → ∀ L : Int32, nt_min tk xs ys (nt_SX i (i + 1)) L → wX_closest_5 post c xs ys tk dn cl (d + 1) L (nI i) := by
  intro d
  induction d with
  | zero =>
    intro i hi L h
    have e : i = 24 := by omega
    subst e
    exact br_t nt_end (hp L (nt_min_c nt_SXa h))
  | succ d ih =>
    intro i hi L h
    have hl : i < 24 := by omega
    exact br_f (nt_ge hl) (nm_r (nI_1 i) ⟨d + 1, nt_cX1 ok hl (fun M hM => ih (i + 1) (by omega) M (nt_min_c nt_SXe hM)) d (i + 1) (by omega) (by omega) L h⟩)
theorem nt_cY1 {xs ys tk dn gr : Nat → Int32} (ok : ∀ i, nt_ok (xs i) ∧ nt_ok (ys i)) {post : Int32 → Prop} {J : Int32 → Int32 → Prop} {i : Nat} (hi : i < 24) (hJ : ∀ L, nt_min tk xs ys (nt_SY i i) L → J L (nI (i + 1))) : ∀ d j : Nat, j + d = i → ∀ L : Int32, nt_min tk xs ys (nt_SY i j) L → wY_closest_13 post J (nI i) tk xs ys dn gr (d + 1) L (nI j) := by
  intro d
  induction d with
  | zero =>
    intro j hj L h
    have e : j = i := by omega
    subst e
    exact br_t (Int32.le_refl _) (nm_r (nI_1 j) (hJ L h))
  | succ d ih =>
    intro j hj L h
    have hl : j < 24 := by omega
    have hs := nt_SYs (by omega : j < i) hi
    refine br_f (nI_ge (by omega) (by omega)) ⟨nt_in hl, nt_in hl, ?_⟩
    rw [nt_cl hl]
    refine nt_dY hi ?_
    rw [nt_dsym]
    by_cases z1 : tk i = 0
    · exact ⟨nt_in hi, br_t (by rw [nt_cl hi]; exact z1) (nm_r (nI_1 j) (ih (j + 1) (by omega) L (nt_min_n hs (fun t => t.2 z1) h)))⟩
    · by_cases z2 : tk j = 0
      · exact ⟨nt_in hi, br_f (by rw [nt_cl hi]; exact z1) ⟨nt_in hl, br_t z2 (nm_r (nI_1 j) (ih (j + 1) (by omega) L (nt_min_n hs (fun t => t.1 z2) h)))⟩⟩
      · refine ⟨nt_in hi, br_f (by rw [nt_cl hi]; exact z1) ⟨nt_in hl, br_f z2 ?_⟩⟩
        by_cases e : L = -3
        · exact br_t e (nm_r (nI_1 j) (ih (j + 1) (by omega) _ (nt_min_0 ok hs ⟨z2, z1⟩ e h)))
        · by_cases l : L ≤ nt_D xs ys j i
          · exact br_f e (br_t l (nm_r (nI_1 j) (ih (j + 1) (by omega) _ (nt_min_k hs e l h))))
          · exact br_f e (br_f l (nm_r (nI_1 j) (ih (j + 1) (by omega) _ (nt_min_l hs ⟨z2, z1⟩ e l h))))
theorem nt_cY2 {xs ys tk dn gr : Nat → Int32} (ok : ∀ i, nt_ok (xs i) ∧ nt_ok (ys i)) {post : Int32 → Prop} (hp : ∀ L, nt_min tk xs ys nt_SA L → post L) : ∀ d i : Nat, i + d = 24 → ∀ L : Int32, nt_min tk xs ys (nt_SY i 0) L → wY_closest_5 post tk xs ys dn gr (d + 1) L (nI i) := by
  intro d
  induction d with
  | zero =>
    intro i hi L h
    have e : i = 24 := by omega
    subst e
    exact br_t nt_end (hp L (nt_min_c nt_SYa h))
  | succ d ih =>
    intro i hi L h
    have hl : i < 24 := by omega
    exact br_f (nt_ge hl) ⟨i + 1, nt_cY1 ok hl (fun M hM => ih (i + 1) (by omega) M (nt_min_c nt_SYe hM)) i 0 (by omega) L h⟩
theorem i_vc_closest {k : Nat} {u : SX} {v : SY} (I : i_Rel k u v) (hk : k + 5 ≤ 2560) : wpX_closest (fun r => wpY_closest (fun r' => r' = r ∧ i_Rel (k + 5) u v) v) u := by
  obtain ⟨xs, ys, tk, dn, cl, gr, rfl, rfl, ok⟩ := I
  have h1 : nt_min tk xs ys (nt_SX 0 1) (-3) := Or.inl ⟨rfl, fun a b s => by unfold nt_SX at s; omega⟩
  have h2 : nt_min tk xs ys (nt_SY 0 0) (-3) := Or.inl ⟨rfl, fun a b s => by unfold nt_SY at s; omega⟩
  refine ⟨25, nt_cX2 ok (fun L hL => ?_) 24 0 rfl (-3) h1⟩
  exact ⟨25, nt_cY2 ok (fun M hM => ⟨nt_min_u ok hM hL, xs, ys, tk, dn, cl, gr, rfl, rfl, ok⟩) 24 0 rfl (-3) h2⟩
end
section
/-! clusters, the mathematics: labels g with g p ≤ p that no function constant along the edges can tell from the places themselves -/
def nt_inv (E : Nat → Nat → Prop) (f : Nat → Nat) : Prop := ∀ p q, E p q → f p = f q
def nt_Cn (E : Nat → Nat → Prop) (g : Nat → Nat) : Prop := (∀ p, g p ≤ p) ∧ ∀ f : Nat → Nat, nt_inv E f → ∀ p, f (g p) = f p
theorem nt_Cid (E : Nat → Nat → Prop) : nt_Cn E (fun i => i) := ⟨fun p => Nat.le_refl p, fun _ _ _ => rfl⟩
/-- good labels lie below all others -/
theorem nt_low {E : Nat → Nat → Prop} {c g : Nat → Nat} (hc : nt_Cn E c) (ic : nt_inv E c) (hg : nt_Cn E g) (p : Nat) : c p ≤ g p := by
  have h := hg.2 c ic p
  have l := hc.1 (g p)
  omega
def nt_bad (g c : Nat → Nat) : Nat → Nat
  | 0 => 0
  | n + 1 => nt_bad g c n + (if g n = c n then 0 else 1)
theorem nt_bad_t {g c : Nat → Nat} {n : Nat} (h : g n = c n) : nt_bad g c (n + 1) = nt_bad g c n := by
  show nt_bad g c n + (if g n = c n then 0 else 1) = _
  rw [if_pos h]; rfl
theorem nt_bad_f {g c : Nat → Nat} {n : Nat} (h : ¬ g n = c n) : nt_bad g c (n + 1) = nt_bad g c n + 1 := by
  show nt_bad g c n + (if g n = c n then 0 else 1) = _
  rw [if_neg h]
theorem nt_bad_le (g c : Nat → Nat) (n : Nat) : nt_bad g c n ≤ n := by
  induction n with
  | zero => exact Nat.le_refl _
  | succ n ih =>
    by_cases h : g n = c n
    · rw [nt_bad_t h]; omega
    · rw [nt_bad_f h]; omega
theorem nt_bad_0 {g c : Nat → Nat} {n : Nat} (h : nt_bad g c n = 0) : ∀ p, p < n → g p = c p := by
  induction n with
  | zero => intro p hp; omega
  | succ n ih =>
    intro p hp
    by_cases e : g n = c n
    · rw [nt_bad_t e] at h
      by_cases ep : p = n
      · rw [ep]; exact e
      · exact ih h p (by omega)
    · rw [nt_bad_f e] at h
      omega
theorem nt_bad_m {g g' c : Nat → Nat} (m : ∀ p, g p = c p → g' p = c p) (n : Nat) : nt_bad g' c n ≤ nt_bad g c n := by
  induction n with
  | zero => exact Nat.le_refl _
  | succ n ih =>
    by_cases e : g n = c n
    · rw [nt_bad_t e, nt_bad_t (m n e)]; exact ih
    · rw [nt_bad_f e]
      by_cases e' : g' n = c n
      · rw [nt_bad_t e']; omega
      · rw [nt_bad_f e']; omega
theorem nt_bad_lt {g g' c : Nat → Nat} (m : ∀ p, g p = c p → g' p = c p) {a : Nat} (ha : ¬ g a = c a) (ha' : g' a = c a) {n : Nat} (hn : a < n) : nt_bad g' c n < nt_bad g c n := by
  induction n with
  | zero => omega
  | succ n ih =>
    by_cases ea : a = n
    · subst ea
      rw [nt_bad_f ha, nt_bad_t ha']
      have := nt_bad_m m a
      omega
    · have i := ih (by omega)
      by_cases e : g n = c n
      · rw [nt_bad_t e, nt_bad_t (m n e)]; exact i
      · rw [nt_bad_f e]
        by_cases e' : g' n = c n
        · rw [nt_bad_t e']; omega
        · rw [nt_bad_f e']; omega
/-- as long as a label is wrong, an edge leads from a wrong one to a right one -/
theorem nt_cross {E : Nat → Nat → Prop} (sy : ∀ p q, E p q → E q p) {c g : Nat → Nat} (hc : nt_Cn E c) (ic : nt_inv E c) (hg : nt_Cn E g) {p : Nat} (hne : ¬ g p = c p) : ∃ a b, E a b ∧ ¬ g a = c a ∧ g b = c b := by
  refine Classical.byContradiction fun no => ?_
  have hf : nt_inv E (fun x => if g x = c x then 1 else 0) := by
    intro a b e
    show (if g a = c a then 1 else 0) = (if g b = c b then 1 else 0)
    by_cases h1 : g a = c a
    · by_cases h2 : g b = c b
      · rw [if_pos h1, if_pos h2]
      · exact absurd ⟨b, a, sy a b e, h2, h1⟩ no
    · by_cases h2 : g b = c b
      · exact absurd ⟨a, b, e, h1, h2⟩ no
      · rw [if_neg h1, if_neg h2]
  have k : (if g (c p) = c (c p) then 1 else 0) = (if g p = c p then 1 else 0) := hc.2 _ hf p
  have e1 : c (c p) = c p := hc.2 c ic p
  have l1 := nt_low hc ic hg (c p)
  have l2 := hg.1 (c p)
  have e2 : g (c p) = c (c p) := by omega
  rw [if_pos e2, if_neg hne] at k
  exact absurd k (by decide)
/-- what a round of Y does -/
def nt_rd (E : Nat → Nat → Prop) (g g' : Nat → Nat) : Prop := (∀ p, g' p ≤ g p) ∧ nt_Cn E g' ∧ ∀ p q, E p q → g' p ≤ g q
theorem nt_rnd {E : Nat → Nat → Prop} (sy : ∀ p q, E p q → E q p) (lt : ∀ p q, E p q → p < 24) {g g' c : Nat → Nat} (hg : nt_Cn E g) (R : nt_rd E g g') (hc : nt_Cn E c) (ic : nt_inv E c) {n : Nat} (hn : nt_bad g c 24 ≤ n + 1) : nt_bad g' c 24 ≤ n := by
  have m : ∀ p, g p = c p → g' p = c p := by
    intro p h
    have l1 := R.1 p
    have l2 := nt_low hc ic R.2.1 p
    omega
  by_cases z : nt_bad g c 24 = 0
  · have := nt_bad_m m 24
    omega
  · by_cases all : ∀ p, p < 24 → g p = c p
    · exfalso
      refine z ?_
      have k : ∀ n, n ≤ 24 → nt_bad g c n = 0 := by
        intro n
        induction n with
        | zero => intro _; rfl
        | succ n ih => intro h; rw [nt_bad_t (all n (by omega)), ih (by omega)]
      exact k 24 (Nat.le_refl _)
    · have ⟨p, hp⟩ := Classical.not_forall.mp all
      have hne : ¬ g p = c p := fun e => hp (fun _ => e)
      obtain ⟨a, b, e, ha, hb⟩ := nt_cross sy hc ic hg hne
      have l1 := R.2.2 a b e
      have l2 := nt_low hc ic R.2.1 a
      have l3 := ic a b e
      have := nt_bad_lt m ha (by omega : g' a = c a) (lt a b e)
      omega
/-- what joining two labels does -/
theorem nt_join {E : Nat → Nat → Prop} {g : Nat → Nat} (hg : nt_Cn E g) {i j s l : Nat} (e : E i j) (sl : s ≤ l) (h : s = g i ∧ l = g j ∨ s = g j ∧ l = g i) : nt_Cn E (fun p => if g p = l then s else g p) ∧ (if g i = l then s else g i) = (if g j = l then s else g j) := by
  refine ⟨⟨fun p => ?_, fun f hf p => ?_⟩, ?_⟩
  · show (if g p = l then s else g p) ≤ p
    have := hg.1 p
    by_cases z : g p = l
    · rw [if_pos z]; omega
    · rw [if_neg z]; omega
  · show f (if g p = l then s else g p) = f p
    have k := hg.2 f hf p
    by_cases z : g p = l
    · rw [if_pos z]
      have ki := hg.2 f hf i
      have kj := hg.2 f hf j
      have kij := hf i j e
      rcases h with ⟨rfl, h2⟩ | ⟨rfl, h2⟩
      · rw [← h2, ← z] at kj
        omega
      · rw [← h2, ← z] at ki
        omega
    · rw [if_neg z]; exact k
  · rcases h with ⟨h1, h2⟩ | ⟨h1, h2⟩
    · by_cases z : g i = l
      · rw [if_pos z, if_pos h2.symm]
      · rw [if_neg z, if_pos h2.symm]; exact h1.symm
    · by_cases z : g j = l
      · rw [if_pos z, if_pos h2.symm]
      · rw [if_neg z, if_pos h2.symm]; exact h1
end
section
/-! the dense marks, in lockstep -/
theorem nt_dn0 (c : Int32) (xs ys tk cl : Nat → Int32) (r2 m : Int32) : ∀ d j : Nat, j + d = 24 → ∀ dn gr : Nat → Int32, (∀ i, i < j → gr i = nI i) → ∃ dn' : Nat → Int32, (∀ post : SX → Prop, post (c, xs, ys, tk, dn', cl) → wX_findDense_2 post r2 m c (d + 1) (nI j) xs ys tk dn cl) ∧ (∀ post : SY → Prop, (∀ gr' : Nat → Int32, (∀ i, i < 24 → gr' i = nI i) → ∃ n64 : Nat, wY_findGroups_64 post r2 n64 0 tk xs ys dn' gr') → wY_findGroups_2 post r2 m (d + 1) (nI j) tk xs ys dn gr) := by
  intro d
  induction d with
  | zero =>
    intro j hj dn gr hg
    have e : j = 24 := by omega
    subst e
    exact ⟨dn, fun _ hp => br_t nt_end hp, fun _ hp => br_t nt_end (hp gr hg)⟩
  | succ d ih =>
    intro j hj dn gr hg
    have hl : j < 24 := by omega
    have h := nt_ge hl
    have hi := nt_in hl
    have e0 : upd dn (nI j).toNatClampNeg (vp_nar .boolean 0) = upd dn j 0 := by rw [nt_cl hl, nt_b0]
    have e1 : upd dn (nI j).toNatClampNeg (vp_nar .boolean 1) = upd dn j 1 := by rw [nt_cl hl, nt_b1]
    have eg : upd gr (nI j).toNatClampNeg (nI j) = upd gr j (nI j) := by rw [nt_cl hl]
    have hg' : ∀ i, i < j + 1 → upd gr j (nI j) i = nI i := by
      intro i hi
      by_cases e : i = j
      · rw [e, nt_us]
      · rw [nt_un e]; exact hg i (by omega)
    by_cases z : tk (nI j).toNatClampNeg = 0
    · obtain ⟨dn', hX, hY⟩ := ih (j + 1) (by omega) (upd dn j 0) (upd gr j (nI j)) hg'
      exact ⟨dn', fun post hp => br_f h ⟨hi, br_t z ⟨hi, nm_r e0 (nm_r (nI_1 j) (hX post hp))⟩⟩, fun post hp => br_f h ⟨hi, br_t z ⟨hi, nm_r e0 ⟨hi, nm_r eg (nm_r (nI_1 j) (hY post hp))⟩⟩⟩⟩
    · obtain ⟨s, sX, sY⟩ := nt_near c xs ys tk dn cl gr (xs (nI j).toNatClampNeg) (ys (nI j).toNatClampNeg) r2
      by_cases w : s < m
      · obtain ⟨dn', hX, hY⟩ := ih (j + 1) (by omega) (upd dn j 0) (upd gr j (nI j)) hg'
        exact ⟨dn', fun post hp => br_f h ⟨hi, br_f z ⟨hi, hi, sX _ (br_t w ⟨hi, nm_r e0 (nm_r (nI_1 j) (hX post hp))⟩)⟩⟩, fun post hp => br_f h ⟨hi, br_f z ⟨hi, hi, sY _ (br_t w ⟨hi, nm_r e0 ⟨hi, nm_r eg (nm_r (nI_1 j) (hY post hp))⟩⟩)⟩⟩⟩
      · obtain ⟨dn', hX, hY⟩ := ih (j + 1) (by omega) (upd dn j 1) (upd gr j (nI j)) hg'
        exact ⟨dn', fun post hp => br_f h ⟨hi, br_f z ⟨hi, hi, sX _ (br_f w ⟨hi, nm_r e1 (nm_r (nI_1 j) (hX post hp))⟩)⟩⟩, fun post hp => br_f h ⟨hi, br_f z ⟨hi, hi, sY _ (br_f w ⟨hi, nm_r e1 ⟨hi, nm_r eg (nm_r (nI_1 j) (hY post hp))⟩⟩)⟩⟩⟩
theorem nt_dn (c : Int32) (xs ys tk dn cl gr : Nat → Int32) (r2 m : Int32) : ∃ dn' : Nat → Int32, (∀ post : SX → Prop, post (c, xs, ys, tk, dn', cl) → wpX_findDense post (c, xs, ys, tk, dn, cl) r2 m) ∧ (∀ post : SY → Prop, (∀ gr' : Nat → Int32, (∀ i, i < 24 → gr' i = nI i) → ∃ n64 : Nat, wY_findGroups_64 post r2 n64 0 tk xs ys dn' gr') → wpY_findGroups post (tk, xs, ys, dn, gr) r2 m) := by
  obtain ⟨dn', hX, hY⟩ := nt_dn0 c xs ys tk cl r2 m 24 0 rfl dn gr (fun i hi => absurd hi (Nat.not_lt_zero i))
  exact ⟨dn', fun post hp => ⟨25, hX post hp⟩, fun post hp => ⟨25, hY post hp⟩⟩

/-! edges and labels -/
def nt_E (xs ys dn : Nat → Int32) (r2 : Int32) (p q : Nat) : Prop := p < 24 ∧ q < 24 ∧ ¬ dn p = 0 ∧ ¬ dn q = 0 ∧ ¬ r2 < nt_D xs ys p q
theorem nt_Dsym (xs ys : Nat → Int32) (p q : Nat) : nt_D xs ys p q = nt_D xs ys q p := nt_dsym xs ys p q
theorem nt_Esy (xs ys dn : Nat → Int32) (r2 : Int32) (p q : Nat) (h : nt_E xs ys dn r2 p q) : nt_E xs ys dn r2 q p :=
  ⟨h.2.1, h.1, h.2.2.2.1, h.2.2.1, by rw [nt_Dsym]; exact h.2.2.2.2⟩
def nt_lab (a : Nat → Int32) (g : Nat → Nat) : Prop := ∀ i, i < 24 → a i = nI (g i)

/-! X: joining -/
theorem nt_jn {post : SX → Prop} {c : Int32} {xs ys tk dn a0 : Nat → Int32} {s l : Int32} (h : ∀ a' : Nat → Int32, (∀ i, i < 24 → a' i = if a0 i = l then s else a0 i) → post (c, xs, ys, tk, dn, a')) : ∀ d j : Nat, j + d = 24 → ∀ a : Nat → Int32, (∀ i, i < j → a i = if a0 i = l then s else a0 i) → (∀ i, j ≤ i → a i = a0 i) → wX_joinClusters_26 post s l c (d + 1) (nI j) xs ys tk dn a := by
  intro d
  induction d with
  | zero =>
    intro j hj a h1 _
    have e : j = 24 := by omega
    subst e
    exact br_t nt_end (h a h1)
  | succ d ih =>
    intro j hj a h1 h2
    have hl : j < 24 := by omega
    have ej := h2 j (Nat.le_refl j)
    by_cases z : a j = l
    · refine br_f (nt_ge hl) ⟨nt_in hl, br_t (by rw [nt_cl hl]; exact z) ⟨nt_in hl, nm_r (e' := upd a j s) (by rw [nt_cl hl]) (nm_r (nI_1 j) (ih (j + 1) (by omega) (upd a j s) (fun i hi => ?_) (fun i hi => ?_)))⟩⟩
      · by_cases e : i = j
        · rw [e, nt_us, ← ej, if_pos z]
        · rw [nt_un e]; exact h1 i (by omega)
      · rw [nt_un (by omega)]; exact h2 i (by omega)
    · refine br_f (nt_ge hl) ⟨nt_in hl, br_f (by rw [nt_cl hl]; exact z) (nm_r (nI_1 j) (ih (j + 1) (by omega) a (fun i hi => ?_) (fun i hi => h2 i (by omega))))⟩
      by_cases e : i = j
      · rw [e, ← ej, if_neg z]
      · exact h1 i (by omega)
theorem nt_jnX {post : SX → Prop} {c : Int32} {xs ys tk dn a0 : Nat → Int32} {x y : Nat} (hx : x < 24) (hy : y < 24) (h : ∀ s l : Nat, s ≤ l → (s = x ∧ l = y ∨ s = y ∧ l = x) → ∀ a' : Nat → Int32, (∀ i, i < 24 → a' i = if a0 i = nI l then nI s else a0 i) → post (c, xs, ys, tk, dn, a')) : wpX_joinClusters post (c, xs, ys, tk, dn, a0) (nI x) (nI y) := by
  by_cases e : y ≤ x
  · have e' : nI y ≤ nI x := nI_le e (by omega)
    exact br_t e' (br_t e' ⟨25, nt_jn (h y x e (Or.inr ⟨rfl, rfl⟩)) 24 0 rfl a0 (fun i hi => absurd hi (Nat.not_lt_zero i)) (fun _ _ => rfl)⟩)
  · have e' : ¬ nI y ≤ nI x := nI_ge (by omega) (by omega)
    exact br_f e' (br_f e' ⟨25, nt_jn (h x y (by omega) (Or.inl ⟨rfl, rfl⟩)) 24 0 rfl a0 (fun i hi => absurd hi (Nat.not_lt_zero i)) (fun _ _ => rfl)⟩)
theorem nt_labj {a a' : Nat → Int32} {g : Nat → Nat} (hg : ∀ p, g p ≤ p) (lab : nt_lab a g) {s l : Nat} (hl : l < 24) (h : ∀ i, i < 24 → a' i = if a i = nI l then nI s else a i) : nt_lab a' (fun p => if g p = l then s else g p) := by
  intro i hi
  show a' i = nI (if g i = l then s else g i)
  have b := hg i
  rw [h i hi, lab i hi]
  by_cases z : g i = l
  · rw [if_pos z, if_pos (by rw [z])]
  · rw [if_neg z, if_neg]
    intro e
    exact z ((nI_eq (by omega) (by omega)).mp e)
def nt_IX (xs ys dn : Nat → Int32) (r2 : Int32) (i j : Nat) (a : Nat → Int32) : Prop :=
  ∃ g : Nat → Nat, nt_lab a g ∧ nt_Cn (nt_E xs ys dn r2) g ∧ ∀ p q, nt_SX i j p q → nt_E xs ys dn r2 p q → g p = g q
theorem nt_IXn {xs ys dn : Nat → Int32} {r2 : Int32} {i j : Nat} {a : Nat → Int32} (hij : i < j) (hj : j < 24) (e : ¬ nt_E xs ys dn r2 i j) (h : nt_IX xs ys dn r2 i j a) : nt_IX xs ys dn r2 i (j + 1) a := by
  obtain ⟨g, h1, h2, h3⟩ := h
  refine ⟨g, h1, h2, fun p q s f => ?_⟩
  rcases (nt_SXs hij hj p q).mp s with s | ⟨rfl, rfl⟩
  · exact h3 p q s f
  · exact absurd f e
theorem nt_fX1 {post : SX → Prop} {J : Int32 → Int32 → (Nat → Int32) → (Nat → Int32) → (Nat → Int32) → (Nat → Int32) → (Nat → Int32) → Prop} {c : Int32} {xs ys tk dn : Nat → Int32} {r2 : Int32} {i : Nat} (hi : i < 24) (hJ : ∀ a : Nat → Int32, nt_IX xs ys dn r2 i 24 a → J (nI (i + 1)) c xs ys tk dn a) : ∀ d j : Nat, j + d = 24 → i < j → ∀ a : Nat → Int32, nt_IX xs ys dn r2 i j a → wX_findClusters_40 post J r2 (nI i) (d + 1) (nI j) c xs ys tk dn a := by
  intro d
  induction d with
  | zero =>
    intro j hj _ a h
    have e : j = 24 := by omega
    subst e
    exact br_t nt_end (nm_r (nI_1 i) (hJ a h))
  | succ d ih =>
    intro j hj hij a h
    have hl : j < 24 := by omega
    by_cases z1 : dn i = 0
    · exact br_f (nt_ge hl) ⟨nt_in hi, br_t (by rw [nt_cl hi]; exact z1) (br_t rfl (nm_r (nI_1 j) (ih (j + 1) (by omega) (by omega) a (nt_IXn hij hl (fun e => e.2.2.1 z1) h))))⟩
    · by_cases z2 : dn j = 0
      · exact br_f (nt_ge hl) ⟨nt_in hi, br_f (by rw [nt_cl hi]; exact z1) ⟨nt_in hl, br_t (by rw [nt_cl hl]; exact z2) (br_t rfl (nm_r (nI_1 j) (ih (j + 1) (by omega) (by omega) a (nt_IXn hij hl (fun e => e.2.2.2.1 z2) h))))⟩⟩
      · refine br_f (nt_ge hl) ⟨nt_in hi, br_f (by rw [nt_cl hi]; exact z1) ⟨nt_in hl, br_f (by rw [nt_cl hl]; exact z2) (br_f nt_10 ⟨nt_in hl, nt_in hl, ?_⟩)⟩⟩
        rw [nt_cl hl]
        refine nt_dX hi ?_
        by_cases w : r2 < nt_D xs ys i j
        · exact br_t w (nm_r (nI_1 j) (ih (j + 1) (by omega) (by omega) a (nt_IXn hij hl (fun e => e.2.2.2.2 w) h)))
        · obtain ⟨g, lab, C, S⟩ := h
          have bi := C.1 i
          have bj := C.1 j
          refine br_f w ⟨nt_in hi, nt_in hl, ?_⟩
          rw [nt_cl hi, lab i hi, lab j hl]
          refine nt_jnX (by omega) (by omega) (fun s l sl hsl a' ha' => ?_)
          have K := nt_join C (⟨hi, hl, z1, z2, w⟩ : nt_E xs ys dn r2 i j) sl hsl
          refine nm_r (nI_1 j) (ih (j + 1) (by omega) (by omega) a' ⟨fun p => if g p = l then s else g p, nt_labj C.1 lab (by omega) ha', K.1, fun p q t f => ?_⟩)
          rcases (nt_SXs hij hl p q).mp t with t | ⟨rfl, rfl⟩
          · show (if g p = l then s else g p) = (if g q = l then s else g q)
            rw [S p q t f]
          · exact K.2
theorem nt_fX2 {post : SX → Prop} {c : Int32} {xs ys tk dn : Nat → Int32} {r2 : Int32} (hp : ∀ (a : Nat → Int32) (g : Nat → Nat), nt_lab a g → nt_Cn (nt_E xs ys dn r2) g → nt_inv (nt_E xs ys dn r2) g → post (c, xs, ys, tk, dn, a)) : ∀ d i : Nat, i + d = 24 → ∀ a : Nat → Int32, nt_IX xs ys dn r2 i (i + 1) a → wX_findClusters_29 post r2 (d + 1) (nI i) c xs ys tk dn a := by
  intro d
  induction d with
  | zero =>
    intro i hi a h
    have e : i = 24 := by omega
    subst e
    obtain ⟨g, lab, C, S⟩ := h
    refine br_t nt_end (hp a g lab C (fun p q f => ?_))
    rcases Nat.lt_trichotomy p q with t | t | t
    · exact S p q ((nt_SXa p q).mp ⟨t, f.2.1⟩) f
    · rw [t]
    · exact (S q p ((nt_SXa q p).mp ⟨t, f.1⟩) (nt_Esy xs ys dn r2 p q f)).symm
  | succ d ih =>
    intro i hi a h
    have hl : i < 24 := by omega
    refine br_f (nt_ge hl) (nm_r (nI_1 i) ⟨d + 1, nt_fX1 hl (fun b hb => ih (i + 1) (by omega) b ?_) d (i + 1) (by omega) (by omega) a h⟩)
    obtain ⟨g, lab, C, S⟩ := hb
    exact ⟨g, lab, C, fun p q s f => S p q ((nt_SXe p q).mp s) f⟩
theorem nt_fX3 {post : SX → Prop} {c : Int32} {xs ys tk dn : Nat → Int32} {r2 : Int32} (hp : ∀ (a : Nat → Int32) (g : Nat → Nat), nt_lab a g → nt_Cn (nt_E xs ys dn r2) g → nt_inv (nt_E xs ys dn r2) g → post (c, xs, ys, tk, dn, a)) : ∀ d j : Nat, j + d = 24 → ∀ a : Nat → Int32, (∀ i, i < j → a i = nI i) → wX_findClusters_8 post r2 c (d + 1) (nI j) xs ys tk dn a := by
  intro d
  induction d with
  | zero =>
    intro j hj a h
    have e : j = 24 := by omega
    subst e
    exact br_t nt_end ⟨25, nt_fX2 hp 24 0 rfl a ⟨fun i => i, h, nt_Cid _, fun p q s _ => by unfold nt_SX at s; omega⟩⟩
  | succ d ih =>
    intro j hj a h
    have hl : j < 24 := by omega
    refine br_f (nt_ge hl) ⟨nt_in hl, nm_r (e' := upd a j (nI j)) (by rw [nt_cl hl]) (nm_r (nI_1 j) (ih (j + 1) (by omega) (upd a j (nI j)) (fun i hi => ?_)))⟩
    by_cases e : i = j
    · rw [e, nt_us]
    · rw [nt_un e]; exact h i (by omega)

/-! Y: rounds -/
def nt_IY (xs ys dn : Nat → Int32) (r2 : Int32) (g0 : Nat → Nat) (i j : Nat) (a : Nat → Int32) : Prop :=
  ∃ g : Nat → Nat, nt_lab a g ∧ (∀ p, g p ≤ g0 p) ∧ nt_Cn (nt_E xs ys dn r2) g ∧ (∀ p q, p < i → nt_E xs ys dn r2 p q → g p ≤ g0 q) ∧ ∀ q, q < j → nt_E xs ys dn r2 i q → g i ≤ g0 q
theorem nt_IYn {xs ys dn : Nat → Int32} {r2 : Int32} {g0 : Nat → Nat} {i j : Nat} {a : Nat → Int32} (e : ¬ nt_E xs ys dn r2 i j) (h : nt_IY xs ys dn r2 g0 i j a) : nt_IY xs ys dn r2 g0 i (j + 1) a := by
  obtain ⟨g, h1, h2, h3, h4, h5⟩ := h
  refine ⟨g, h1, h2, h3, h4, fun q hq f => ?_⟩
  by_cases z : q = j
  · rw [z] at f; exact absurd f e
  · exact h5 q (by omega) f
theorem nt_fY1 {post : SY → Prop} {J64 J73 : Int32 → (Nat → Int32) → (Nat → Int32) → (Nat → Int32) → (Nat → Int32) → (Nat → Int32) → Prop} {xs ys tk dn : Nat → Int32} {r2 x3 : Int32} {g0 : Nat → Nat} {i : Nat} (hi : i < 24) (hJ : ∀ a : Nat → Int32, nt_IY xs ys dn r2 g0 i 24 a → J73 (nI (i + 1)) tk xs ys dn a) : ∀ d j : Nat, j + d = 24 → ∀ a : Nat → Int32, nt_IY xs ys dn r2 g0 i j a → wY_findGroups_83 post J64 J73 r2 x3 (nI i) (d + 1) (nI j) tk xs ys dn a := by
  intro d
  induction d with
  | zero =>
    intro j hj a h
    have e : j = 24 := by omega
    subst e
    exact br_t nt_end (nm_r (nI_1 i) (hJ a h))
  | succ d ih =>
    intro j hj a h
    have hl : j < 24 := by omega
    by_cases z1 : dn i = 0
    · exact br_f (nt_ge hl) ⟨nt_in hi, br_t (by rw [nt_cl hi]; exact z1) (nm_r (nI_1 j) (ih (j + 1) (by omega) a (nt_IYn (fun e => e.2.2.1 z1) h)))⟩
    · by_cases z2 : dn j = 0
      · exact br_f (nt_ge hl) ⟨nt_in hi, br_f (by rw [nt_cl hi]; exact z1) ⟨nt_in hl, br_t (by rw [nt_cl hl]; exact z2) (nm_r (nI_1 j) (ih (j + 1) (by omega) a (nt_IYn (fun e => e.2.2.2.1 z2) h)))⟩⟩
      · have h0 := h
        obtain ⟨g, lab, L, C, P, Q⟩ := h
        have bi := C.1 i
        have bj := C.1 j
        have Lj := L j
        by_cases l : g i ≤ g j
        · refine br_f (nt_ge hl) ⟨nt_in hi, br_f (by rw [nt_cl hi]; exact z1) ⟨nt_in hl, br_f (by rw [nt_cl hl]; exact z2) ⟨nt_in hl, nt_in hi, br_t (by rw [nt_cl hi, nt_cl hl, lab i hi, lab j hl]; exact nI_le l (by omega)) (nm_r (nI_1 j) (ih (j + 1) (by omega) a ⟨g, lab, L, C, P, fun q hq f => ?_⟩))⟩⟩⟩
          by_cases z : q = j
          · rw [z]; omega
          · exact Q q (by omega) f
        · refine br_f (nt_ge hl) ⟨nt_in hi, br_f (by rw [nt_cl hi]; exact z1) ⟨nt_in hl, br_f (by rw [nt_cl hl]; exact z2) ⟨nt_in hl, nt_in hi, br_f (by rw [nt_cl hi, nt_cl hl, lab i hi, lab j hl]; exact nI_ge (by omega) (by omega)) ⟨nt_in hl, nt_in hl, ?_⟩⟩⟩⟩
          rw [nt_cl hl]
          refine nt_dY hi ?_
          by_cases w : r2 < nt_D xs ys i j
          · exact br_t w (nm_r (nI_1 j) (ih (j + 1) (by omega) a (nt_IYn (fun e => e.2.2.2.2 w) h0)))
          · have E : nt_E xs ys dn r2 i j := ⟨hi, hl, z1, z2, w⟩
            have ei : (if i = i then g j else g i) = g j := if_pos rfl
            refine br_f w ⟨nt_in hl, nt_in hi, nm_r (e' := upd a i (nI (g j))) (by rw [nt_cl hi, lab j hl]) (nm_r (nI_1 j) (ih (j + 1) (by omega) (upd a i (nI (g j))) ⟨fun p => if p = i then g j else g p, fun p hp => ?_, fun p => ?_, ⟨fun p => ?_, fun f hf p => ?_⟩, fun p q hp f => ?_, fun q hq f => ?_⟩))⟩
            · show upd a i (nI (g j)) p = nI (if p = i then g j else g p)
              by_cases z : p = i
              · rw [z, nt_us, if_pos rfl]
              · rw [nt_un z, if_neg z]; exact lab p hp
            · show (if p = i then g j else g p) ≤ g0 p
              have Lp := L p
              by_cases z : p = i
              · rw [if_pos z]; rw [z] at Lp ⊢; omega
              · rw [if_neg z]; exact Lp
            · show (if p = i then g j else g p) ≤ p
              by_cases z : p = i
              · rw [if_pos z]; omega
              · rw [if_neg z]; exact C.1 p
            · show f (if p = i then g j else g p) = f p
              by_cases z : p = i
              · rw [if_pos z, z, C.2 f hf j]
                exact (hf i j E).symm
              · rw [if_neg z]; exact C.2 f hf p
            · show (if p = i then g j else g p) ≤ g0 q
              rw [if_neg (by omega)]; exact P p q hp f
            · show (if i = i then g j else g i) ≤ g0 q
              rw [ei]
              by_cases z : q = j
              · rw [z]; exact Lj
              · have := Q q (by omega) f
                omega
theorem nt_fY2 {post : SY → Prop} {J64 : Int32 → (Nat → Int32) → (Nat → Int32) → (Nat → Int32) → (Nat → Int32) → (Nat → Int32) → Prop} {xs ys tk dn : Nat → Int32} {r2 : Int32} {k : Nat} {g0 : Nat → Nat} (hJ : ∀ (a : Nat → Int32) (g : Nat → Nat), nt_lab a g → nt_rd (nt_E xs ys dn r2) g0 g → J64 (nI (k + 1)) tk xs ys dn a) : ∀ d i : Nat, i + d = 24 → ∀ a : Nat → Int32, nt_IY xs ys dn r2 g0 i 0 a → wY_findGroups_73 post J64 r2 (nI k) (d + 1) (nI i) tk xs ys dn a := by
  intro d
  induction d with
  | zero =>
    intro i hi a h
    have e : i = 24 := by omega
    subst e
    obtain ⟨g, lab, L, C, P, Q⟩ := h
    exact br_t nt_end (nm_r (nI_1 k) (hJ a g lab ⟨L, C, fun p q f => P p q f.1 f⟩))
  | succ d ih =>
    intro i hi a h
    have hl : i < 24 := by omega
    refine br_f (nt_ge hl) ⟨25, nt_fY1 hl (fun b hb => ih (i + 1) (by omega) b ?_) 24 0 rfl a h⟩
    obtain ⟨g, lab, L, C, P, Q⟩ := hb
    refine ⟨g, lab, L, C, fun p q hp f => ?_, fun q hq => absurd hq (Nat.not_lt_zero q)⟩
    by_cases z : p = i
    · rw [z] at f ⊢; exact Q q f.2.1 f
    · exact P p q (by omega) f
theorem nt_fY3 {post : SY → Prop} {xs ys tk dn : Nat → Int32} {r2 : Int32} (hp : ∀ (a : Nat → Int32) (g : Nat → Nat), nt_lab a g → (∀ c : Nat → Nat, nt_Cn (nt_E xs ys dn r2) c → nt_inv (nt_E xs ys dn r2) c → ∀ i, i < 24 → g i = c i) → post (tk, xs, ys, dn, a)) : ∀ d k : Nat, k + d = 24 → ∀ (a : Nat → Int32) (g : Nat → Nat), nt_lab a g → nt_Cn (nt_E xs ys dn r2) g → (∀ c : Nat → Nat, nt_Cn (nt_E xs ys dn r2) c → nt_inv (nt_E xs ys dn r2) c → nt_bad g c 24 ≤ d) → wY_findGroups_64 post r2 (d + 1) (nI k) tk xs ys dn a := by
  intro d
  induction d with
  | zero =>
    intro k hk a g lab C B
    have e : k = 24 := by omega
    subst e
    exact br_t nt_end (hp a g lab (fun c hc ic => nt_bad_0 (by have := B c hc ic; omega)))
  | succ d ih =>
    intro k hk a g lab C B
    have hl : k < 24 := by omega
    exact br_f (nt_ge hl) ⟨25, nt_fY2 (g0 := g) (fun b g' lab' R => ih (k + 1) (by omega) b g' lab' R.2.1 (fun c hc ic => nt_rnd (nt_Esy xs ys dn r2) (fun p q f => f.1) C R hc ic (B c hc ic))) 24 0 rfl a ⟨g, lab, fun p => Nat.le_refl _, C, fun p q hp => absurd hp (Nat.not_lt_zero p), fun q hq => absurd hq (Nat.not_lt_zero q)⟩⟩
end
section
theorem nt_fcX {c : Int32} {xs ys tk dn cl dn' : Nat → Int32} {r2 m : Int32} (dX : ∀ post : SX → Prop, post (c, xs, ys, tk, dn', cl) → wpX_findDense post (c, xs, ys, tk, dn, cl) r2 m) {post : SX → Prop} (hp : ∀ (a : Nat → Int32) (g : Nat → Nat), nt_lab a g → nt_Cn (nt_E xs ys dn' r2) g → nt_inv (nt_E xs ys dn' r2) g → post (c, xs, ys, tk, dn', a)) : wpX_findClusters post (c, xs, ys, tk, dn, cl) r2 m := by
  unfold wpX_findClusters
  dsimp only
  exact dX _ ⟨25, nt_fX3 hp 24 0 rfl cl (fun i hi => absurd hi (Nat.not_lt_zero i))⟩
theorem nt_fcY {xs ys tk dn gr dn' : Nat → Int32} {r2 m : Int32} (dY : ∀ post : SY → Prop, (∀ gr' : Nat → Int32, (∀ i, i < 24 → gr' i = nI i) → ∃ n64 : Nat, wY_findGroups_64 post r2 n64 0 tk xs ys dn' gr') → wpY_findGroups post (tk, xs, ys, dn, gr) r2 m) {post : SY → Prop} (hp : ∀ (a : Nat → Int32) (g : Nat → Nat), nt_lab a g → (∀ c : Nat → Nat, nt_Cn (nt_E xs ys dn' r2) c → nt_inv (nt_E xs ys dn' r2) c → ∀ i, i < 24 → g i = c i) → post (tk, xs, ys, dn', a)) : wpY_findGroups post (tk, xs, ys, dn, gr) r2 m :=
  dY post (fun gr' h => ⟨25, nt_fY3 hp 24 0 rfl gr' (fun i => i) h (nt_Cid _) (fun c _ _ => nt_bad_le _ c 24)⟩)

/-! clusters -/
theorem nt_cc (c : Int32) (xs ys tk dn cl : Nat → Int32) : ∀ d j : Nat, j + d = 24 → ∀ acc : Int32, ∃ r : Int32, (∀ post : Int32 → SX → Prop, post r (c, xs, ys, tk, dn, cl) → wX_clusters_11 post c xs ys tk dn cl (d + 1) acc (nI j)) ∧ (∀ gr : Nat → Int32, (∀ i, i < 24 → gr i = cl i) → ∀ post : Int32 → SY → Prop, post r (tk, xs, ys, dn, gr) → wY_clusters_11 post tk xs ys dn gr (d + 1) acc (nI j)) := by
  intro d
  induction d with
  | zero =>
    intro j hj acc
    have e : j = 24 := by omega
    subst e
    exact ⟨acc, fun _ hp => br_t nt_end hp, fun _ _ _ hp => br_t nt_end hp⟩
  | succ d ih =>
    intro j hj acc
    have hl : j < 24 := by omega
    have h := nt_ge hl
    have hi := nt_in hl
    by_cases z : dn (nI j).toNatClampNeg = 0
    · obtain ⟨r, hX, hY⟩ := ih (j + 1) (by omega) acc
      exact ⟨r, fun post hp => br_f h ⟨hi, br_t z (nm_r (nI_1 j) (hX post hp))⟩, fun gr hg post hp => br_f h ⟨hi, br_t z (nm_r (nI_1 j) (hY gr hg post hp))⟩⟩
    · by_cases w : cl j = nI j
      · obtain ⟨r, hX, hY⟩ := ih (j + 1) (by omega) (acc + 1)
        exact ⟨r, fun post hp => br_f h ⟨hi, br_f z ⟨hi, br_t (by rw [nt_cl hl]; exact w) (nm_e (nm_r (nI_1 j) (hX post hp)))⟩⟩, fun gr hg post hp => br_f h ⟨hi, br_f z ⟨hi, br_t (by rw [nt_cl hl, hg j hl]; exact w) (nm_e (nm_r (nI_1 j) (hY gr hg post hp)))⟩⟩⟩
      · obtain ⟨r, hX, hY⟩ := ih (j + 1) (by omega) acc
        exact ⟨r, fun post hp => br_f h ⟨hi, br_f z ⟨hi, br_f (by rw [nt_cl hl]; exact w) (nm_r (nI_1 j) (hX post hp))⟩⟩, fun gr hg post hp => br_f h ⟨hi, br_f z ⟨hi, br_f (by rw [nt_cl hl, hg j hl]; exact w) (nm_r (nI_1 j) (hY gr hg post hp))⟩⟩⟩
theorem i_vc_clusters {k : Nat} {u : SX} {v : SY} (I : i_Rel k u v) (hk : k + 5 ≤ 2560) (v1 : Int32) (v2 : Int32) : wpX_clusters (fun r u' => wpY_clusters (fun r' v' => r' = r ∧ i_Rel (k + 5) u' v') v v1 v2) u v1 v2 := by
  obtain ⟨xs, ys, tk, dn, cl, gr, rfl, rfl, ok⟩ := I
  unfold wpX_clusters wpY_clusters
  dsimp only
  obtain ⟨dn', dX, dY⟩ := nt_dn (nI (nt_cnt tk 24)) xs ys tk dn cl gr v1 v2
  refine nt_fcX dX (fun a g lab C i => ?_)
  obtain ⟨r, hX, hY⟩ := nt_cc (nI (nt_cnt tk 24)) xs ys tk dn' a 24 0 rfl 0
  refine ⟨25, hX _ (nt_fcY dY (fun b e lab' G => ⟨25, hY b (fun p hp => ?_) _ ⟨rfl, xs, ys, tk, dn', a, b, rfl, rfl, ok⟩⟩))⟩
  rw [lab' p hp, lab p hp, G g C i p hp]

/-! clusterOf -/
theorem i_vc_clusterOf {k : Nat} {u : SX} {v : SY} (I : i_Rel k u v) (hk : k + 5 ≤ 2560) (v1 : Int32) (v2 : Int32) (v3 : Int32) : wpX_clusterOf (fun r u' => wpY_clusterOf (fun r' v' => r' = r ∧ i_Rel (k + 5) u' v') v v1 v2 v3) u v1 v2 v3 := by
  obtain ⟨xs, ys, tk, dn, cl, gr, rfl, rfl, ok⟩ := I
  unfold wpX_clusterOf wpY_clusterOf
  dsimp only
  by_cases h : nt_has tk v1
  · obtain ⟨p, hp, rfl, hz⟩ := h
    obtain ⟨dn', dX, dY⟩ := nt_dn (nI (nt_cnt tk 24)) xs ys tk dn cl gr v2 v3
    refine nt_hasX hp hz (br_f nt_10 (nt_fcX dX (fun a g lab C i => ?_)))
    dsimp only
    rw [nt_cl hp]
    by_cases z : dn' p = 0
    · refine ⟨nt_in hp, br_t z (nt_hasY hp hz (br_f nt_10 (nt_fcY dY (fun b e lab' G => ?_))))⟩
      exact ⟨nt_in hp, br_t z ⟨rfl, xs, ys, tk, dn', a, b, rfl, rfl, ok⟩⟩
    · refine ⟨nt_in hp, br_f z ⟨nt_in hp, nt_hasY hp hz (br_f nt_10 (nt_fcY dY (fun b e lab' G => ?_)))⟩⟩
      refine ⟨nt_in hp, br_f z ⟨nt_in hp, ?_, xs, ys, tk, dn', a, b, rfl, rfl, ok⟩⟩
      show b p = a p
      rw [lab' p hp, lab p hp, G g C i p hp]
  · exact nt_nasX h (br_t rfl (nt_nasY h (br_t rfl ⟨rfl, xs, ys, tk, dn, cl, gr, rfl, rfl, ok⟩)))

/-! noise -/
theorem nt_fr0 (c : Int32) (xs ys tk dn cl : Nat → Int32) (r2 : Int32) {p : Nat} (hp : p < 24) : ∀ d j : Nat, j + d = 24 → ∃ r : Int32, (∀ post : Int32 → Prop, post r → wX_isFringe_2 post (nI p) r2 c xs ys tk dn cl (d + 1) (nI j)) ∧ (∀ (gr : Nat → Int32) (post : Int32 → Prop), post r → wY_besideDense_2 post (nI p) r2 tk xs ys dn gr (d + 1) (nI j)) := by
  intro d
  induction d with
  | zero =>
    intro j hj
    have e : j = 24 := by omega
    subst e
    exact ⟨0, fun _ hp => br_t nt_end hp, fun _ _ hp => br_t nt_end hp⟩
  | succ d ih =>
    intro j hj
    have hl : j < 24 := by omega
    have h := nt_ge hl
    have hi := nt_in hl
    obtain ⟨r, hX, hY⟩ := ih (j + 1) (by omega)
    by_cases z : dn (nI j).toNatClampNeg = 0
    · exact ⟨r, fun post q => br_f h ⟨hi, br_t z (nm_r (nI_1 j) (hX post q))⟩, fun gr post q => br_f h ⟨hi, br_t z (nm_r (nI_1 j) (hY gr post q))⟩⟩
    · by_cases w : r2 < nt_D xs ys j p
      · refine ⟨r, fun post q => br_f h ⟨hi, br_f z ⟨nt_in hp, nt_in hp, ?_⟩⟩, fun gr post q => br_f h ⟨hi, br_f z ⟨hi, hi, ?_⟩⟩⟩
        · rw [nt_cl hp]
          exact nt_dX hl (br_t w (nm_r (nI_1 j) (hX post q)))
        · rw [nt_cl hl]
          refine nt_dY hp ?_
          rw [nt_dsym]
          exact br_t w (nm_r (nI_1 j) (hY gr post q))
      · refine ⟨1, fun post q => br_f h ⟨hi, br_f z ⟨nt_in hp, nt_in hp, ?_⟩⟩, fun gr post q => br_f h ⟨hi, br_f z ⟨hi, hi, ?_⟩⟩⟩
        · rw [nt_cl hp]
          exact nt_dX hl (br_f w q)
        · rw [nt_cl hl]
          refine nt_dY hp ?_
          rw [nt_dsym]
          exact br_f w q
theorem nt_fr (c : Int32) (xs ys tk dn cl : Nat → Int32) (r2 : Int32) {p : Nat} (hp : p < 24) : ∃ r : Int32, (∀ post : Int32 → Prop, post r → wpX_isFringe post (c, xs, ys, tk, dn, cl) (nI p) r2) ∧ (∀ (gr : Nat → Int32) (post : Int32 → Prop), post r → wpY_besideDense post (tk, xs, ys, dn, gr) (nI p) r2) := by
  obtain ⟨r, hX, hY⟩ := nt_fr0 c xs ys tk dn cl r2 hp 24 0 rfl
  exact ⟨r, fun post h => ⟨25, hX post h⟩, fun gr post h => ⟨25, hY gr post h⟩⟩
theorem nt_no0 (c : Int32) (xs ys tk dn cl : Nat → Int32) (r2 : Int32) : ∀ d j : Nat, j + d = 24 → ∀ acc : Int32, ∃ r : Int32, (∀ post : Int32 → SX → Prop, post r (c, xs, ys, tk, dn, cl) → wX_noise_11 post r2 c xs ys tk dn cl (d + 1) acc (nI j)) ∧ (∀ (gr : Nat → Int32) (post : Int32 → SY → Prop), post r (tk, xs, ys, dn, gr) → wY_noise_11 post r2 tk xs ys dn gr (d + 1) acc (nI j)) := by
  intro d
  induction d with
  | zero =>
    intro j hj acc
    have e : j = 24 := by omega
    subst e
    exact ⟨acc, fun _ hp => br_t nt_end hp, fun _ _ hp => br_t nt_end hp⟩
  | succ d ih =>
    intro j hj acc
    have hl : j < 24 := by omega
    have h := nt_ge hl
    have hi := nt_in hl
    obtain ⟨r, hX, hY⟩ := ih (j + 1) (by omega) acc
    by_cases z : tk (nI j).toNatClampNeg = 0
    · exact ⟨r, fun post q => br_f h ⟨hi, br_t z (nm_r (nI_1 j) (hX post q))⟩, fun gr post q => br_f h ⟨hi, br_t z (nm_r (nI_1 j) (hY gr post q))⟩⟩
    · by_cases w : dn (nI j).toNatClampNeg = 0
      · obtain ⟨s, sX, sY⟩ := nt_fr c xs ys tk dn cl r2 hl
        by_cases y : s = 0
        · obtain ⟨t, tX, tY⟩ := ih (j + 1) (by omega) (acc + 1)
          exact ⟨t, fun post q => br_f h ⟨hi, br_f z ⟨hi, br_t w (sX _ (br_t y (nm_e (nm_r (nI_1 j) (tX post q)))))⟩⟩, fun gr post q => br_f h ⟨hi, br_f z ⟨hi, br_t w (sY gr _ (br_t y (nm_e (nm_r (nI_1 j) (tY gr post q)))))⟩⟩⟩
        · exact ⟨r, fun post q => br_f h ⟨hi, br_f z ⟨hi, br_t w (sX _ (br_f y (nm_r (nI_1 j) (hX post q))))⟩⟩, fun gr post q => br_f h ⟨hi, br_f z ⟨hi, br_t w (sY gr _ (br_f y (nm_r (nI_1 j) (hY gr post q))))⟩⟩⟩
      · exact ⟨r, fun post q => br_f h ⟨hi, br_f z ⟨hi, br_f w (nm_r (nI_1 j) (hX post q))⟩⟩, fun gr post q => br_f h ⟨hi, br_f z ⟨hi, br_f w (nm_r (nI_1 j) (hY gr post q))⟩⟩⟩
theorem i_vc_noise {k : Nat} {u : SX} {v : SY} (I : i_Rel k u v) (hk : k + 5 ≤ 2560) (v1 : Int32) (v2 : Int32) : wpX_noise (fun r u' => wpY_noise (fun r' v' => r' = r ∧ i_Rel (k + 5) u' v') v v1 v2) u v1 v2 := by
  obtain ⟨xs, ys, tk, dn, cl, gr, rfl, rfl, ok⟩ := I
  unfold wpX_noise wpY_noise
  dsimp only
  obtain ⟨dn', dX, dY⟩ := nt_dn (nI (nt_cnt tk 24)) xs ys tk dn cl gr v1 v2
  obtain ⟨r, hX, hY⟩ := nt_no0 (nI (nt_cnt tk 24)) xs ys tk dn' cl v1 24 0 rfl 0
  exact dX _ ⟨25, hX _ (nt_fcY dY (fun b e lab' G => ⟨25, hY b _ ⟨rfl, xs, ys, tk, dn', cl, b, rfl, rfl, ok⟩⟩))⟩
end
