section
/-! numbers against 24 -/
theorem nt_24 : nI 24 = 24 := by decide +kernel
theorem nt_23 : nI 23 = 23 := by decide +kernel
theorem nt_ge {j : Nat} (h : j < 24) : ¬ (24 : Int32) ≤ nI j := by rw [← nt_24]; exact nI_ge h (by decide)
theorem nt_end : (24 : Int32) ≤ nI 24 := by rw [← nt_24]; exact nI_le (Nat.le_refl _) (by decide)
theorem nt_in {j : Nat} (h : j < 24) : vp_in (nI j) 24 := vp_in_nI h (by decide)
theorem nt_cl {j : Nat} (h : j < 24) : (nI j).toNatClampNeg = j := nI_clamp (by omega)
theorem nt_b0 : vp_nar .boolean 0 = 0 := by decide
theorem nt_b1 : vp_nar .boolean 1 = 1 := by decide
theorem nt_10 : ¬ (1 : Int32) = 0 := by decide
theorem nt_us {f : Nat → Int32} {k : Nat} {x : Int32} : upd f k x k = x := by unfold upd; exact if_pos rfl
theorem nt_un {f : Nat → Int32} {k j : Nat} {x : Int32} (h : j ≠ k) : upd f k x j = f j := by unfold upd; exact if_neg h

/-! how many places hold a point -/
def nt_cnt (f : Nat → Int32) : Nat → Nat
  | 0 => 0
  | n + 1 => nt_cnt f n + (if f n = 0 then 0 else 1)
theorem nt_cnt_t {f : Nat → Int32} {n : Nat} (h : f n = 0) : nt_cnt f (n + 1) = nt_cnt f n := by
  show nt_cnt f n + (if f n = 0 then 0 else 1) = _
  rw [if_pos h]; rfl
theorem nt_cnt_f {f : Nat → Int32} {n : Nat} (h : ¬ f n = 0) : nt_cnt f (n + 1) = nt_cnt f n + 1 := by
  show nt_cnt f n + (if f n = 0 then 0 else 1) = _
  rw [if_neg h]
theorem nt_cnt_le (f : Nat → Int32) (n : Nat) : nt_cnt f n ≤ n := by
  induction n with
  | zero => exact Nat.le_refl _
  | succ n ih =>
    by_cases h : f n = 0
    · rw [nt_cnt_t h]; omega
    · rw [nt_cnt_f h]; omega
theorem nt_cnt_lt {f : Nat → Int32} {n p : Nat} (hp : p < n) (hz : f p = 0) : nt_cnt f n < n := by
  induction n with
  | zero => omega
  | succ n ih =>
    by_cases e : p = n
    · have := nt_cnt_le f n
      rw [nt_cnt_t (by rw [← e]; exact hz)]; omega
    · have := ih (by omega)
      by_cases h : f n = 0
      · rw [nt_cnt_t h]; omega
      · rw [nt_cnt_f h]; omega
theorem nt_cnt_all {f : Nat → Int32} {n : Nat} (h : ∀ p, p < n → ¬ f p = 0) : nt_cnt f n = n := by
  induction n with
  | zero => rfl
  | succ n ih => rw [nt_cnt_f (h n (by omega)), ih (fun p hp => h p (by omega))]
theorem nt_cnt_out {f : Nat → Int32} {p : Nat} {v : Int32} {n : Nat} (h : n ≤ p) : nt_cnt (upd f p v) n = nt_cnt f n := by
  induction n with
  | zero => rfl
  | succ n ih =>
    have e : upd f p v n = f n := nt_un (by omega)
    have i := ih (by omega)
    by_cases z : f n = 0
    · rw [nt_cnt_t z, nt_cnt_t (e.trans z), i]
    · rw [nt_cnt_f z, nt_cnt_f (by rw [e]; exact z), i]
theorem nt_cnt_put {f : Nat → Int32} {p : Nat} {v : Int32} {n : Nat} (hp : p < n) (hz : f p = 0) (hv : ¬ v = 0) : nt_cnt (upd f p v) n = nt_cnt f n + 1 := by
  induction n with
  | zero => omega
  | succ n ih =>
    by_cases e : n = p
    · subst e
      rw [nt_cnt_t hz, nt_cnt_f (by rw [nt_us]; exact hv), nt_cnt_out (Nat.le_refl _)]
    · have en : upd f p v n = f n := nt_un e
      have i := ih (by omega)
      by_cases z : f n = 0
      · rw [nt_cnt_t z, nt_cnt_t (en.trans z), i]
      · rw [nt_cnt_f z, nt_cnt_f (by rw [en]; exact z), i]
theorem nt_cnt_del {f : Nat → Int32} {p n : Nat} (hp : p < n) (hz : ¬ f p = 0) : nt_cnt (upd f p 0) n + 1 = nt_cnt f n := by
  induction n with
  | zero => omega
  | succ n ih =>
    by_cases e : n = p
    · subst e
      rw [nt_cnt_f hz, nt_cnt_t nt_us, nt_cnt_out (Nat.le_refl _)]
    · have en : upd f p 0 n = f n := nt_un e
      have i := ih (by omega)
      by_cases z : f n = 0
      · rw [nt_cnt_t z, nt_cnt_t (en.trans z), i]
      · rw [nt_cnt_f z, nt_cnt_f (by rw [en]; exact z), i]

/-! the relation: the same places, the same spots, the same dense marks; the count is the number of points; the spots lie within 100 -/
def nt_ok (x : Int32) : Prop := -100 ≤ x.toInt ∧ x.toInt ≤ 100
def i_Rel (_ : Nat) (u : SX) (v : SY) : Prop :=
  ∃ xs ys tk dn cl gr : Nat → Int32, u = (nI (nt_cnt tk 24), xs, ys, tk, dn, cl) ∧ v = (tk, xs, ys, dn, gr) ∧ ∀ i, nt_ok (xs i) ∧ nt_ok (ys i)
theorem i_up {k : Nat} {u : SX} {v : SY} (h : i_Rel k u v) : i_Rel (k + 5) u v := h
theorem nt_ok0 : nt_ok 0 := by unfold nt_ok; decide
theorem i_vc0 : wpX_init (fun u => wpY_init (fun v => i_Rel 0 u v)) :=
  ⟨fun _ => 0, fun _ => 0, fun _ => 0, fun _ => 0, fun _ => 0, fun _ => 0, by
    have h : ∀ n, nt_cnt (fun _ => 0) n = 0 := by
      intro n
      induction n with
      | zero => rfl
      | succ n ih => rw [nt_cnt_t rfl, ih]
    rw [h, nI_0], rfl, fun _ => ⟨nt_ok0, nt_ok0⟩⟩

/-! distance -/
def nt_d (xs ys : Nat → Int32) (p : Nat) (x y : Int32) : Int32 := (xs p - x) * (xs p - x) + (ys p - y) * (ys p - y)
theorem nt_dX {post : Int32 → Prop} {c : Int32} {xs ys tk dn cl : Nat → Int32} {p : Nat} {x y : Int32} (hp : p < 24) (h : post (nt_d xs ys p x y)) : wpX_distanceFrom post (c, xs, ys, tk, dn, cl) (nI p) x y := by
  unfold wpX_distanceFrom
  dsimp only
  rw [nt_cl hp]
  exact ⟨nt_in hp, nm_e ⟨nt_in hp, nm_e h⟩⟩
theorem nt_dY {post : Int32 → Prop} {tk xs ys dn gr : Nat → Int32} {p : Nat} {x y : Int32} (hp : p < 24) (h : post (nt_d xs ys p x y)) : wpY_distance post (tk, xs, ys, dn, gr) (nI p) x y := by
  unfold wpY_distance
  dsimp only
  rw [nt_cl hp]
  exact ⟨nt_in hp, nt_in hp, nt_in hp, nt_in hp, h⟩
theorem nt_sq (a b : Int32) : (a - b) * (a - b) = (b - a) * (b - a) := by grind
theorem nt_dsym (xs ys : Nat → Int32) (p q : Nat) : nt_d xs ys p (xs q) (ys q) = nt_d xs ys q (xs p) (ys p) := by
  unfold nt_d
  rw [nt_sq (xs p) (xs q), nt_sq (ys p) (ys q)]
/-- a spot within 100 of the middle, told apart by Java's comparisons -/
def nt_out (x y m : Int32) : Prop := x < -m ∨ m < x ∨ y < -m ∨ m < y
theorem nt_outX {post : Int32 → Prop} {x y m : Int32} (h : nt_out x y m) (hp : post 1) : wpX_isOutside post x y m := by
  refine br_c (fun _ => hp) fun a => br_c (fun _ => hp) fun b => br_c (fun _ => hp) fun e => br_c (fun f => ?_) (fun _ => hp)
  rcases h with h | h | h | h
  · exact absurd h a
  · exact absurd h b
  · exact absurd h e
  · exact absurd h (Int32.not_lt.mpr f)
theorem nt_insX {post : Int32 → Prop} {x y m : Int32} (h : ¬ nt_out x y m) (hp : post 0) : wpX_isOutside post x y m := by
  refine br_f (fun z => h (Or.inl z)) (br_f (fun z => h (Or.inr (Or.inl z))) (br_f (fun z => h (Or.inr (Or.inr (Or.inl z)))) (br_t ?_ hp)))
  exact Int32.not_lt.mp (fun z => h (Or.inr (Or.inr (Or.inr z))))
theorem nt_outY {post : Int32 → Prop} {v : SY} {x y m : Int32} (h : nt_out x y m) (hp : post 0) : wpY_isSpot post v x y m := by
  refine br_c (fun _ => hp) fun a => br_c (fun _ => hp) fun b => br_c (fun _ => hp) fun e => br_c (fun _ => hp) fun f => ?_
  rcases h with h | h | h | h
  · exact absurd h a
  · exact absurd h b
  · exact absurd h e
  · exact absurd h f
theorem nt_insY {post : Int32 → Prop} {v : SY} {x y m : Int32} (h : ¬ nt_out x y m) (hp : post 1) : wpY_isSpot post v x y m :=
  br_f (fun z => h (Or.inl z)) (br_f (fun z => h (Or.inr (Or.inl z))) (br_f (fun z => h (Or.inr (Or.inr (Or.inl z)))) (br_f (fun z => h (Or.inr (Or.inr (Or.inr z)))) hp)))
theorem nt_okof {x y : Int32} (h : ¬ nt_out x y 100) : nt_ok x ∧ nt_ok y := by
  unfold nt_out at h
  simp only [Int32.lt_iff_toInt_lt] at h
  have e : (-(100 : Int32)).toInt = -100 := by decide
  have f : (100 : Int32).toInt = 100 := by decide
  rw [e, f] at h
  unfold nt_ok
  omega
/-- the place holds a point -/
def nt_has (tk : Nat → Int32) (x : Int32) : Prop := ∃ p : Nat, p < 24 ∧ x = nI p ∧ ¬ tk p = 0
theorem nt_ix (x : Int32) : x < 0 ∨ ((24 : Int32) ≤ x) ∨ ∃ p : Nat, p < 24 ∧ x = nI p := by
  by_cases h : x < 0
  · exact Or.inl h
  · obtain ⟨j, hj, rfl⟩ := nI_of h
    by_cases g : j < 24
    · exact Or.inr (Or.inr ⟨j, g, rfl⟩)
    · exact Or.inr (Or.inl (by rw [← nt_24]; exact nI_le (by omega) hj))
theorem nt_hasX {post : Int32 → Prop} {c : Int32} {xs ys tk dn cl : Nat → Int32} {p : Nat} (hp : p < 24) (h : ¬ tk p = 0) (h1 : post 1) : wpX_hasPoint post (c, xs, ys, tk, dn, cl) (nI p) :=
  br_f (nI_pos (by omega)) (br_f (nt_ge hp) ⟨nt_in hp, br_f (by rw [nt_cl hp]; exact h) h1⟩)
theorem nt_nasX {post : Int32 → Prop} {c : Int32} {xs ys tk dn cl : Nat → Int32} {x : Int32} (h : ¬ nt_has tk x) (h0 : post 0) : wpX_hasPoint post (c, xs, ys, tk, dn, cl) x := by
  rcases nt_ix x with g | g | ⟨p, hp, rfl⟩
  · exact br_t g h0
  · exact br_c (fun _ => h0) fun _ => br_t g h0
  · refine br_c (fun _ => h0) fun _ => br_c (fun _ => h0) fun _ => ⟨nt_in hp, br_c (fun _ => h0) fun z => ?_⟩
    rw [nt_cl hp] at z
    exact absurd ⟨p, hp, rfl, z⟩ h
theorem nt_g23 {j : Nat} (h : j < 24) : ¬ (23 : Int32) < nI j := by rw [← nt_23]; exact nI_nlt (by omega) (by decide)
theorem nt_hasY {post : Int32 → Prop} {xs ys tk dn gr : Nat → Int32} {p : Nat} (hp : p < 24) (h : ¬ tk p = 0) (h1 : post 1) : wpY_isPoint post (tk, xs, ys, dn, gr) (nI p) :=
  br_f (nI_pos (by omega)) (br_f (nt_g23 hp) ⟨nt_in hp, br_f (by rw [nt_cl hp]; exact h) h1⟩)
theorem nt_nasY {post : Int32 → Prop} {xs ys tk dn gr : Nat → Int32} {x : Int32} (h : ¬ nt_has tk x) (h0 : post 0) : wpY_isPoint post (tk, xs, ys, dn, gr) x := by
  rcases nt_ix x with g | g | ⟨p, hp, rfl⟩
  · exact br_t g h0
  · refine br_c (fun _ => h0) fun _ => br_t ?_ h0
    rw [Int32.lt_iff_toInt_lt]
    rw [Int32.le_iff_toInt_le] at g
    have e : (24 : Int32).toInt = 24 := by decide
    have f : (23 : Int32).toInt = 23 := by decide
    omega
  · refine br_c (fun _ => h0) fun _ => br_c (fun _ => h0) fun _ => ⟨nt_in hp, br_c (fun _ => h0) fun z => ?_⟩
    rw [nt_cl hp] at z
    exact absurd ⟨p, hp, rfl, z⟩ h
end
section
/-! size -/
theorem nt_sizeY (xs ys tk dn gr : Nat → Int32) (post : Int32 → Prop) (hp : post (nI (nt_cnt tk 24))) : ∀ d j : Nat, j + d = 24 → wY_size_4 post tk xs ys dn gr (d + 1) (nI (nt_cnt tk j)) (nI j) := by
  intro d
  induction d with
  | zero =>
    intro j hj
    cases (by omega : j = 24)
    exact br_t nt_end hp
  | succ d ih =>
    intro j hj
    have hl : j < 24 := by omega
    by_cases z : tk j = 0
    · have i := ih (j + 1) (by omega)
      rw [nt_cnt_t z] at i
      exact br_f (nt_ge hl) ⟨nt_in hl, br_t (by rw [nt_cl hl]; exact z) (nm_r (nI_1 j) i)⟩
    · have i := ih (j + 1) (by omega)
      rw [nt_cnt_f z] at i
      exact br_f (nt_ge hl) ⟨nt_in hl, br_f (by rw [nt_cl hl]; exact z) (nm_r (nI_1 _) (nm_r (nI_1 j) i))⟩
theorem nt_sizeW {xs ys tk dn gr : Nat → Int32} {post : Int32 → Prop} (hp : post (nI (nt_cnt tk 24))) : wpY_size post (tk, xs, ys, dn, gr) :=
  ⟨25, nt_sizeY xs ys tk dn gr post hp 24 0 rfl⟩

/-! counting the near points, in lockstep -/
theorem nt_near0 (c : Int32) (xs ys tk dn cl gr : Nat → Int32) (x y r2 : Int32) : ∀ d j : Nat, j + d = 24 → ∀ acc : Int32, ∃ r : Int32, (∀ post : Int32 → Prop, post r → wX_countNear_6 post x y r2 c xs ys tk dn cl (d + 1) acc (nI j)) ∧ (∀ post : Int32 → Prop, post r → wY_near_6 post x y r2 tk xs ys dn gr (d + 1) acc (nI j)) := by
  intro d
  induction d with
  | zero =>
    intro j hj acc
    cases (by omega : j = 24)
    exact ⟨acc, fun _ hp => br_t nt_end hp, fun _ hp => br_t nt_end hp⟩
  | succ d ih =>
    intro j hj acc
    have hl : j < 24 := by omega
    have h := nt_ge hl
    have hi := nt_in hl
    by_cases z : tk (nI j).toNatClampNeg = 0
    · obtain ⟨r, hX, hY⟩ := ih (j + 1) (by omega) acc
      exact ⟨r, fun post hp => br_f h ⟨hi, br_t z (nm_r (nI_1 j) (hX post hp))⟩, fun post hp => br_f h ⟨hi, br_t z (nm_r (nI_1 j) (hY post hp))⟩⟩
    · by_cases w : r2 < nt_d xs ys j x y
      · obtain ⟨r, hX, hY⟩ := ih (j + 1) (by omega) acc
        exact ⟨r, fun post hp => br_f h ⟨hi, br_f z (nt_dX hl (br_t w (nm_r (nI_1 j) (hX post hp))))⟩, fun post hp => br_f h ⟨hi, br_f z (nt_dY hl (br_t w (nm_r (nI_1 j) (hY post hp))))⟩⟩
      · obtain ⟨r, hX, hY⟩ := ih (j + 1) (by omega) (acc + 1)
        exact ⟨r, fun post hp => br_f h ⟨hi, br_f z (nt_dX hl (br_f w (nm_e (nm_r (nI_1 j) (hX post hp)))))⟩, fun post hp => br_f h ⟨hi, br_f z (nt_dY hl (br_f w (nm_e (nm_r (nI_1 j) (hY post hp)))))⟩⟩
theorem nt_near (c : Int32) (xs ys tk dn cl gr : Nat → Int32) (x y r2 : Int32) : ∃ r : Int32, (∀ post : Int32 → Prop, post r → wpX_countNear post (c, xs, ys, tk, dn, cl) x y r2) ∧ (∀ post : Int32 → Prop, post r → wpY_near post (tk, xs, ys, dn, gr) x y r2) := by
  obtain ⟨r, hX, hY⟩ := nt_near0 c xs ys tk dn cl gr x y r2 24 0 rfl 0
  exact ⟨r, fun post hp => ⟨25, hX post hp⟩, fun post hp => ⟨25, hY post hp⟩⟩

/-! the rank, in lockstep -/
theorem nt_rank0 (c : Int32) (xs ys tk dn cl gr : Nat → Int32) (p x y own : Int32) : ∀ d j : Nat, j + d = 24 → ∀ acc : Int32, ∃ r : Int32, (∀ post : Int32 → Prop, post r → wX_rankOf_15 post p x y own c xs ys tk dn cl (d + 1) acc (nI j)) ∧ (∀ post : Int32 → Prop, post r → wY_rank_15 post p x y own tk xs ys dn gr (d + 1) acc (nI j)) := by
  intro d
  induction d with
  | zero =>
    intro j hj acc
    cases (by omega : j = 24)
    exact ⟨acc, fun _ hp => br_t nt_end hp, fun _ hp => br_t nt_end hp⟩
  | succ d ih =>
    intro j hj acc
    have hl : j < 24 := by omega
    have h := nt_ge hl
    have hi := nt_in hl
    by_cases z : tk (nI j).toNatClampNeg = 0
    · obtain ⟨r, hX, hY⟩ := ih (j + 1) (by omega) acc
      refine ⟨r, fun post hp => br_f h (nt_dX hl ?_), fun post hp => br_f h (nt_dY hl ⟨hi, br_t z (nm_r (nI_1 j) (hY post hp))⟩)⟩
      have K : ∀ z0 : Int32, wX_rankOf_57 post (wX_rankOf_15 post p x y own c xs ys tk dn cl (d + 1)) p x y own acc (nI j) z0 c xs ys tk dn cl := fun z0 => ⟨hi, br_t z (nm_r (nI_1 j) (hX post hp))⟩
      exact br_c (fun _ => K 1) (fun _ => br_c (fun _ => br_c (fun _ => K 0) (fun _ => K 1)) (fun _ => K 0))
    · by_cases b1 : nt_d xs ys j x y < own
      · obtain ⟨r, hX, hY⟩ := ih (j + 1) (by omega) (acc + 1)
        exact ⟨r, fun post hp => br_f h (nt_dX hl (br_t b1 ⟨hi, br_f z (br_f nt_10 (nm_e (nm_r (nI_1 j) (hX post hp))))⟩)), fun post hp => br_f h (nt_dY hl ⟨hi, br_f z (br_t b1 (nm_e (nm_r (nI_1 j) (hY post hp))))⟩)⟩
      · by_cases b2 : nt_d xs ys j x y = own
        · by_cases b3 : p ≤ nI j
          · obtain ⟨r, hX, hY⟩ := ih (j + 1) (by omega) acc
            exact ⟨r, fun post hp => br_f h (nt_dX hl (br_f b1 (br_t b2 (br_t b3 ⟨hi, br_f z (br_t rfl (nm_r (nI_1 j) (hX post hp)))⟩)))), fun post hp => br_f h (nt_dY hl ⟨hi, br_f z (br_f b1 (br_t b2 (br_t b3 (nm_r (nI_1 j) (hY post hp)))))⟩)⟩
          · obtain ⟨r, hX, hY⟩ := ih (j + 1) (by omega) (acc + 1)
            exact ⟨r, fun post hp => br_f h (nt_dX hl (br_f b1 (br_t b2 (br_f b3 ⟨hi, br_f z (br_f nt_10 (nm_e (nm_r (nI_1 j) (hX post hp))))⟩)))), fun post hp => br_f h (nt_dY hl ⟨hi, br_f z (br_f b1 (br_t b2 (br_f b3 (nm_e (nm_r (nI_1 j) (hY post hp))))))⟩)⟩
        · obtain ⟨r, hX, hY⟩ := ih (j + 1) (by omega) acc
          exact ⟨r, fun post hp => br_f h (nt_dX hl (br_f b1 (br_f b2 ⟨hi, br_f z (br_t rfl (nm_r (nI_1 j) (hX post hp)))⟩))), fun post hp => br_f h (nt_dY hl ⟨hi, br_f z (br_f b1 (br_f b2 (nm_r (nI_1 j) (hY post hp))))⟩)⟩
theorem nt_rank (c : Int32) (xs ys tk dn cl gr : Nat → Int32) {p : Nat} (hp : p < 24) (x y : Int32) : ∃ r : Int32, (∀ post : Int32 → Prop, post r → wpX_rankOf post (c, xs, ys, tk, dn, cl) (nI p) x y) ∧ (∀ post : Int32 → Prop, post r → wpY_rank post (tk, xs, ys, dn, gr) (nI p) x y) := by
  obtain ⟨r, hX, hY⟩ := nt_rank0 c xs ys tk dn cl gr (nI p) x y (nt_d xs ys p x y) 24 0 rfl 0
  refine ⟨r, fun post h => ?_, fun post h => ?_⟩
  · unfold wpX_rankOf
    dsimp only
    exact nt_dX hp ⟨25, hX post h⟩
  · unfold wpY_rank
    dsimp only
    exact nt_dY hp ⟨25, hY post h⟩
theorem nt_nst0 (c : Int32) (xs ys tk dn cl gr : Nat → Int32) (x y k : Int32) : ∀ d j : Nat, j + d = 24 → ∃ r : Int32, (∀ post : Int32 → Prop, post r → wX_nearest_16 post x y k c xs ys tk dn cl (d + 1) (nI j)) ∧ (∀ post : Int32 → Prop, post r → wY_nearest_17 post x y k tk xs ys dn gr (d + 1) (nI j)) := by
  intro d
  induction d with
  | zero =>
    intro j hj
    cases (by omega : j = 24)
    exact ⟨-3, fun _ hp => br_t nt_end hp, fun _ hp => br_t nt_end hp⟩
  | succ d ih =>
    intro j hj
    have hl : j < 24 := by omega
    have h := nt_ge hl
    have hi := nt_in hl
    obtain ⟨r, hX, hY⟩ := ih (j + 1) (by omega)
    by_cases z : tk (nI j).toNatClampNeg = 0
    · exact ⟨r, fun post hp => br_f h ⟨hi, br_t z (nm_r (nI_1 j) (hX post hp))⟩, fun post hp => br_f h ⟨hi, br_t z (nm_r (nI_1 j) (hY post hp))⟩⟩
    · obtain ⟨s, sX, sY⟩ := nt_rank c xs ys tk dn cl gr hl x y
      by_cases w : s = k
      · exact ⟨nI j, fun post hp => br_f h ⟨hi, br_f z (sX _ (br_t w hp))⟩, fun post hp => br_f h ⟨hi, br_f z (sY _ (br_t w hp))⟩⟩
      · exact ⟨r, fun post hp => br_f h ⟨hi, br_f z (sX _ (br_f w (nm_r (nI_1 j) (hX post hp))))⟩, fun post hp => br_f h ⟨hi, br_f z (sY _ (br_f w (nm_r (nI_1 j) (hY post hp))))⟩⟩

/-! the box, in lockstep -/
theorem nt_box0 (c : Int32) (xs ys tk dn cl gr : Nat → Int32) (x1 x2 x3 x4 : Int32) : ∀ d j : Nat, j + d = 24 → ∀ acc : Int32, ∃ r : Int32, (∀ post : Int32 → Prop, post r → wX_inBox_6 post x1 x2 x3 x4 c xs ys tk dn cl (d + 1) acc (nI j)) ∧ (∀ post : Int32 → Prop, post r → wY_inBox_6 post x1 x2 x3 x4 tk xs ys dn gr (d + 1) acc (nI j)) := by
  intro d
  induction d with
  | zero =>
    intro j hj acc
    cases (by omega : j = 24)
    exact ⟨acc, fun _ hp => br_t nt_end hp, fun _ hp => br_t nt_end hp⟩
  | succ d ih =>
    intro j hj acc
    have hl : j < 24 := by omega
    have h := nt_ge hl
    have hi := nt_in hl
    obtain ⟨r, hX, hY⟩ := ih (j + 1) (by omega) acc
    by_cases z : tk (nI j).toNatClampNeg = 0
    · refine ⟨r, fun post hp => br_f h ?_, fun post hp => br_f h ⟨hi, br_t z (nm_r (nI_1 j) (hY post hp))⟩⟩
      have K : ∀ x7 z0 : Int32, wX_inBox_70 post (wX_inBox_6 post x1 x2 x3 x4 c xs ys tk dn cl (d + 1)) x1 x2 x3 x4 acc (nI j) x7 z0 c xs ys tk dn cl := fun x7 z0 => ⟨hi, br_t z (nm_r (nI_1 j) (hX post hp))⟩
      have K4 : ∀ x7 : Int32, wX_inBox_40 post (wX_inBox_6 post x1 x2 x3 x4 c xs ys tk dn cl (d + 1)) x1 x2 x3 x4 acc (nI j) x7 c xs ys tk dn cl := fun x7 => ⟨hi, br_c (fun _ => K x7 0) (fun _ => ⟨hi, br_c (fun _ => K x7 0) (fun _ => K x7 1)⟩)⟩
      exact ⟨hi, br_c (fun _ => K4 0) (fun _ => ⟨hi, br_c (fun _ => K4 0) (fun _ => K4 1)⟩)⟩
    · have K0 : ∀ post : Int32 → Prop, post r → ∀ x7 z0 : Int32, (x7 = 0 ∨ z0 = 0) → wX_inBox_70 post (wX_inBox_6 post x1 x2 x3 x4 c xs ys tk dn cl (d + 1)) x1 x2 x3 x4 acc (nI j) x7 z0 c xs ys tk dn cl := fun post hp x7 z0 hz => ⟨hi, br_f z (br_c (fun _ => nm_r (nI_1 j) (hX post hp)) (fun g => br_t (hz.resolve_left g) (nm_r (nI_1 j) (hX post hp))))⟩
      have K4 : ∀ post : Int32 → Prop, post r → wX_inBox_40 post (wX_inBox_6 post x1 x2 x3 x4 c xs ys tk dn cl (d + 1)) x1 x2 x3 x4 acc (nI j) 0 c xs ys tk dn cl := fun post hp => ⟨hi, br_c (fun _ => K0 post hp 0 0 (Or.inl rfl)) (fun _ => ⟨hi, br_c (fun _ => K0 post hp 0 0 (Or.inl rfl)) (fun _ => K0 post hp 0 1 (Or.inl rfl))⟩)⟩
      by_cases b1 : xs (nI j).toNatClampNeg < x1
      · exact ⟨r, fun post hp => br_f h ⟨hi, br_t b1 (K4 post hp)⟩, fun post hp => br_f h ⟨hi, br_f z ⟨hi, br_t b1 (nm_r (nI_1 j) (hY post hp))⟩⟩⟩
      · by_cases b2 : x2 < xs (nI j).toNatClampNeg
        · exact ⟨r, fun post hp => br_f h ⟨hi, br_f b1 ⟨hi, br_t b2 (K4 post hp)⟩⟩, fun post hp => br_f h ⟨hi, br_f z ⟨hi, br_f b1 ⟨hi, br_t b2 (nm_r (nI_1 j) (hY post hp))⟩⟩⟩⟩
        · by_cases b3 : ys (nI j).toNatClampNeg < x3
          · exact ⟨r, fun post hp => br_f h ⟨hi, br_f b1 ⟨hi, br_f b2 ⟨hi, br_t b3 (K0 post hp 1 0 (Or.inr rfl))⟩⟩⟩, fun post hp => br_f h ⟨hi, br_f z ⟨hi, br_f b1 ⟨hi, br_f b2 ⟨hi, br_t b3 (nm_r (nI_1 j) (hY post hp))⟩⟩⟩⟩⟩
          · by_cases b4 : x4 < ys (nI j).toNatClampNeg
            · exact ⟨r, fun post hp => br_f h ⟨hi, br_f b1 ⟨hi, br_f b2 ⟨hi, br_f b3 ⟨hi, br_t b4 (K0 post hp 1 0 (Or.inr rfl))⟩⟩⟩⟩, fun post hp => br_f h ⟨hi, br_f z ⟨hi, br_f b1 ⟨hi, br_f b2 ⟨hi, br_f b3 ⟨hi, br_t b4 (nm_r (nI_1 j) (hY post hp))⟩⟩⟩⟩⟩⟩
            · obtain ⟨s, sX, sY⟩ := ih (j + 1) (by omega) (acc + 1)
              exact ⟨s, fun post hp => br_f h ⟨hi, br_f b1 ⟨hi, br_f b2 ⟨hi, br_f b3 ⟨hi, br_f b4 ⟨hi, br_f z (br_f nt_10 (br_f nt_10 (nm_e (nm_r (nI_1 j) (sX post hp)))))⟩⟩⟩⟩⟩, fun post hp => br_f h ⟨hi, br_f z ⟨hi, br_f b1 ⟨hi, br_f b2 ⟨hi, br_f b3 ⟨hi, br_f b4 (nm_e (nm_r (nI_1 j) (sY post hp)))⟩⟩⟩⟩⟩⟩
end
section
/-! add -/
theorem nt_put {post : Int32 → SX → Prop} {c : Int32} {xs ys tk dn cl : Nat → Int32} {f : Nat} {x y : Int32} (hf : f < 24) (h : post (nI f) (c + 1, upd xs f x, upd ys f y, upd tk f 1, dn, cl)) : wX_add_47 post x y (nI f) c xs ys tk dn cl := by
  unfold wX_add_47
  rw [nt_cl hf, nt_b1]
  exact ⟨nt_in hf, nm_e ⟨nt_in hf, nm_e ⟨nt_in hf, nm_e (nm_e h)⟩⟩⟩
theorem nt_g22 {j : Nat} (h : j < 23) : ¬ (23 : Int32) ≤ nI j := by rw [← nt_23]; exact nI_ge h (by decide)
theorem nt_addX {post : Int32 → SX → Prop} {c : Int32} {xs ys tk dn cl : Nat → Int32} {f : Nat} {x y : Int32} (hf : f < 24) (hz : tk f = 0) (hq : ∀ q, q < f → ¬ tk q = 0) (h : wX_add_47 post x y (nI f) c xs ys tk dn cl) : ∀ d j : Nat, j + d = f → wX_add_26 post x y c xs ys tk dn cl (d + 1) (nI j) := by
  intro d
  induction d with
  | zero =>
    intro j hj
    have e : j = f := by omega
    subst e
    exact br_c (fun _ => h) (fun _ => ⟨nt_in hf, br_t (by rw [nt_cl hf]; exact hz) h⟩)
  | succ d ih =>
    intro j hj
    have hl : j < 24 := by omega
    exact br_f (nt_g22 (by omega)) ⟨nt_in hl, br_f (by rw [nt_cl hl]; exact hq j (by omega)) (nm_r (nI_1 j) (ih (j + 1) (by omega)))⟩
theorem nt_addY {post : Int32 → SY → Prop} {xs ys tk dn gr : Nat → Int32} {f : Nat} {x y : Int32} (hf : f ≤ 24) (hq : ∀ q, q < f → ¬ tk q = 0) (h : wY_add_2 post x y tk xs ys dn gr 1 (nI f)) : ∀ d j : Nat, j + d = f → wY_add_2 post x y tk xs ys dn gr (d + 1) (nI j) := by
  intro d
  induction d with
  | zero =>
    intro j hj
    have e : j = f := by omega
    subst e
    exact h
  | succ d ih =>
    intro j hj
    have hl : j < 24 := by omega
    exact br_f (nt_ge hl) ⟨nt_in hl, br_f (by rw [nt_cl hl]; exact hq j (by omega)) (nm_r (nI_1 j) (ih (j + 1) (by omega)))⟩
theorem nt_first (tk : Nat → Int32) : ∀ n, (∀ q, q < n → ¬ tk q = 0) ∨ ∃ f, f < n ∧ tk f = 0 ∧ ∀ q, q < f → ¬ tk q = 0 := by
  intro n
  induction n with
  | zero => exact Or.inl (fun q hq => absurd hq (Nat.not_lt_zero q))
  | succ n ih =>
    rcases ih with h | ⟨f, hf, hz, hq⟩
    · by_cases z : tk n = 0
      · exact Or.inr ⟨n, by omega, z, h⟩
      · refine Or.inl (fun q hq => ?_)
        by_cases e : q = n
        · rw [e]; exact z
        · exact h q (by omega)
    · exact Or.inr ⟨f, by omega, hz, hq⟩
theorem nt_okupd {xs : Nat → Int32} {f : Nat} {x : Int32} (h : ∀ i, nt_ok (xs i)) (hx : nt_ok x) (i : Nat) : nt_ok (upd xs f x i) := by
  by_cases e : i = f
  · rw [e, nt_us]; exact hx
  · rw [nt_un e]; exact h i
theorem nt_okput {xs ys : Nat → Int32} {f : Nat} {x y : Int32} (ok : ∀ i, nt_ok (xs i) ∧ nt_ok (ys i)) (h : ¬ nt_out x y 100) (i : Nat) : nt_ok (upd xs f x i) ∧ nt_ok (upd ys f y i) :=
  ⟨nt_okupd (fun i => (ok i).1) (nt_okof h).1 i, nt_okupd (fun i => (ok i).2) (nt_okof h).2 i⟩
theorem i_vc_add {k : Nat} {u : SX} {v : SY} (I : i_Rel k u v) (hk : k + 5 ≤ 2560) (v1 : Int32) (v2 : Int32) : wpX_add (fun r u' => wpY_add (fun r' v' => r' = r ∧ i_Rel (k + 5) u' v') v v1 v2) u v1 v2 := by
  obtain ⟨xs, ys, tk, dn, cl, gr, rfl, rfl, ok⟩ := I
  rcases nt_first tk 24 with ha | ⟨f, hf, hz, hq⟩
  · have hn : ¬ nI (nt_cnt tk 24) < 24 := by
      rw [nt_cnt_all ha, ← nt_24]
      exact nI_nlt (Nat.le_refl _) (by decide)
    exact br_f hn ⟨25, nt_addY (Nat.le_refl _) ha (br_t nt_end ⟨rfl, xs, ys, tk, dn, cl, gr, rfl, rfl, ok⟩) 24 0 rfl⟩
  · have hn : nI (nt_cnt tk 24) < 24 := by
      rw [← nt_24]
      exact nI_lt (nt_cnt_lt hf hz) (by decide)
    by_cases ho : nt_out v1 v2 100
    · refine br_t hn (nt_outX ho (br_f nt_10 ⟨f + 1, nt_addY (f := f) (by omega) hq ?_ f 0 (by omega)⟩))
      exact br_f (nt_ge hf) ⟨nt_in hf, br_t (by rw [nt_cl hf]; exact hz) (nt_outY ho (br_t rfl ⟨rfl, xs, ys, tk, dn, cl, gr, rfl, rfl, ok⟩))⟩
    · refine br_t hn (nt_insX ho (br_t rfl ⟨f + 1, nt_addX hf hz hq (nt_put hf ⟨f + 1, nt_addY (f := f) (by omega) hq ?_ f 0 (by omega)⟩) f 0 (by omega)⟩))
      refine br_f (nt_ge hf) ⟨nt_in hf, br_t (by rw [nt_cl hf]; exact hz) (nt_insY ho (br_f nt_10 ?_))⟩
      rw [nt_cl hf, nt_b1]
      refine ⟨nt_in hf, nm_e ⟨nt_in hf, nm_e ⟨nt_in hf, nm_e ⟨rfl, upd xs f v1, upd ys f v2, upd tk f 1, dn, cl, gr, ?_, rfl, nt_okput ok ho⟩⟩⟩⟩
      rw [nI_1, nt_cnt_put hf hz nt_10]

/-! remove, move, size -/
theorem i_vc_remove {k : Nat} {u : SX} {v : SY} (I : i_Rel k u v) (hk : k + 5 ≤ 2560) (v1 : Int32) : wpX_remove (fun r u' => wpY_remove (fun r' v' => r' = r ∧ i_Rel (k + 5) u' v') v v1) u v1 := by
  obtain ⟨xs, ys, tk, dn, cl, gr, rfl, rfl, ok⟩ := I
  unfold wpX_remove wpY_remove
  dsimp only
  by_cases h : nt_has tk v1
  · obtain ⟨p, hp, rfl, hz⟩ := h
    have e : nI (nt_cnt tk 24) - 1 = nI (nt_cnt (upd tk p 0) 24) := by
      rw [← nt_cnt_del hp hz]
      exact nI_pred _
    refine nt_hasX hp hz (br_f nt_10 ?_)
    rw [nt_cl hp, nt_b0]
    exact ⟨nt_in hp, nm_e (nm_r e (nt_hasY hp hz (br_f nt_10 ⟨nt_in hp, nm_e (nt_sizeW ⟨rfl, xs, ys, upd tk p 0, dn, cl, gr, rfl, rfl, ok⟩)⟩)))⟩
  · exact nt_nasX h (br_t rfl (nt_nasY h (br_t rfl ⟨rfl, xs, ys, tk, dn, cl, gr, rfl, rfl, ok⟩)))
theorem i_vc_move {k : Nat} {u : SX} {v : SY} (I : i_Rel k u v) (hk : k + 5 ≤ 2560) (v1 : Int32) (v2 : Int32) (v3 : Int32) : wpX_move (fun r u' => wpY_move (fun r' v' => r' = r ∧ i_Rel (k + 5) u' v') v v1 v2 v3) u v1 v2 v3 := by
  obtain ⟨xs, ys, tk, dn, cl, gr, rfl, rfl, ok⟩ := I
  unfold wpX_move wpY_move
  dsimp only
  by_cases h : nt_has tk v1
  · obtain ⟨p, hp, rfl, hz⟩ := h
    by_cases ho : nt_out v2 v3 100
    · exact nt_hasX hp hz (br_f nt_10 (nt_outX ho (br_f nt_10 (nt_hasY hp hz (br_f nt_10 (nt_outY ho (br_t rfl ⟨rfl, xs, ys, tk, dn, cl, gr, rfl, rfl, ok⟩)))))))
    · refine nt_hasX hp hz (br_f nt_10 (nt_insX ho (br_t rfl (nt_dX hp ?_))))
      rw [nt_cl hp]
      exact ⟨nt_in hp, nm_e ⟨nt_in hp, nm_e (nt_hasY hp hz (br_f nt_10 (nt_insY ho (br_f nt_10 (nt_dY hp ⟨nt_in hp, nm_e ⟨nt_in hp, nm_e ⟨rfl, upd xs p v2, upd ys p v3, tk, dn, cl, gr, rfl, rfl, nt_okput ok ho⟩⟩⟩)))))⟩⟩
  · exact nt_nasX h (br_t rfl (nt_nasY h (br_t rfl ⟨rfl, xs, ys, tk, dn, cl, gr, rfl, rfl, ok⟩)))
theorem i_vc_size {k : Nat} {u : SX} {v : SY} (I : i_Rel k u v) (hk : k + 5 ≤ 2560) : wpX_size (fun r => wpY_size (fun r' => r' = r ∧ i_Rel (k + 5) u v) v) u := by
  obtain ⟨xs, ys, tk, dn, cl, gr, rfl, rfl, ok⟩ := I
  unfold wpX_size
  dsimp only
  exact nt_sizeW ⟨rfl, xs, ys, tk, dn, cl, gr, rfl, rfl, ok⟩

/-! nearest, within, inBox -/
theorem i_vc_nearest {k : Nat} {u : SX} {v : SY} (I : i_Rel k u v) (hk : k + 5 ≤ 2560) (v1 : Int32) (v2 : Int32) (v3 : Int32) : wpX_nearest (fun r => wpY_nearest (fun r' => r' = r ∧ i_Rel (k + 5) u v) v v1 v2 v3) u v1 v2 v3 := by
  obtain ⟨xs, ys, tk, dn, cl, gr, rfl, rfl, ok⟩ := I
  unfold wpX_nearest wpY_nearest
  dsimp only
  by_cases ho : nt_out v1 v2 200
  · exact nt_outX ho (br_f nt_10 (nt_outY ho (br_t rfl ⟨rfl, xs, ys, tk, dn, cl, gr, rfl, rfl, ok⟩)))
  · obtain ⟨r, hX, hY⟩ := nt_nst0 (nI (nt_cnt tk 24)) xs ys tk dn cl gr v1 v2 v3 24 0 rfl
    exact nt_insX ho (br_t rfl ⟨25, hX _ (nt_insY ho (br_f nt_10 ⟨25, hY _ ⟨rfl, xs, ys, tk, dn, cl, gr, rfl, rfl, ok⟩⟩))⟩)
theorem i_vc_within {k : Nat} {u : SX} {v : SY} (I : i_Rel k u v) (hk : k + 5 ≤ 2560) (v1 : Int32) (v2 : Int32) (v3 : Int32) : wpX_within (fun r => wpY_within (fun r' => r' = r ∧ i_Rel (k + 5) u v) v v1 v2 v3) u v1 v2 v3 := by
  obtain ⟨xs, ys, tk, dn, cl, gr, rfl, rfl, ok⟩ := I
  unfold wpX_within wpY_within
  dsimp only
  by_cases ho : nt_out v1 v2 200
  · exact nt_outX ho (br_f nt_10 (nt_outY ho (br_t rfl ⟨rfl, xs, ys, tk, dn, cl, gr, rfl, rfl, ok⟩)))
  · obtain ⟨r, hX, hY⟩ := nt_near (nI (nt_cnt tk 24)) xs ys tk dn cl gr v1 v2 v3
    exact nt_insX ho (br_t rfl (hX _ (nt_insY ho (br_f nt_10 (hY _ ⟨rfl, xs, ys, tk, dn, cl, gr, rfl, rfl, ok⟩)))))
theorem i_vc_inBox {k : Nat} {u : SX} {v : SY} (I : i_Rel k u v) (hk : k + 5 ≤ 2560) (v1 : Int32) (v2 : Int32) (v3 : Int32) (v4 : Int32) : wpX_inBox (fun r => wpY_inBox (fun r' => r' = r ∧ i_Rel (k + 5) u v) v v1 v2 v3 v4) u v1 v2 v3 v4 := by
  obtain ⟨xs, ys, tk, dn, cl, gr, rfl, rfl, ok⟩ := I
  obtain ⟨r, hX, hY⟩ := nt_box0 (nI (nt_cnt tk 24)) xs ys tk dn cl gr v1 v2 v3 v4 24 0 rfl 0
  exact ⟨25, hX _ ⟨25, hY _ ⟨rfl, xs, ys, tk, dn, cl, gr, rfl, rfl, ok⟩⟩⟩
end
