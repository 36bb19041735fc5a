section
/-! numbers against 24 -/
theorem nt_24 : nI 24 = 24 := by decide +kernel
theorem nt_23 : nI 23 = 23 := by decide +kernel
theorem nt_ge {j : Nat} (h : j < 24) : ¬ (24 : Int32) ≤ nI j := by rw [← nt_24]; exact nI_ge h (by decide)
theorem nt_end : (24 : Int32) ≤ nI 24 := by rw [← nt_24]; exact nI_le (Nat.le_refl _) (by decide)
theorem nt_in {j : Nat} (h : j < 24) : vp_in (nI j) 24 := vp_in_nI h (by decide)
theorem nt_cl {j : Nat} (h : j < 24) : (nI j).toNatClampNeg = j := nI_clamp (by omega)
theorem nt_b0 : vp_nar .boolean 0 = 0 := by decide
theorem nt_b1 : vp_nar .boolean 1 = 1 := by decide
theorem nt_10 : ¬ (1 : Int32) = 0 := by decide
theorem nt_us {f : Nat → Int32} {k : Nat} {x : Int32} : upd f k x k = x := by unfold upd; exact if_pos rfl
theorem nt_un {f : Nat → Int32} {k j : Nat} {x : Int32} (h : j ≠ k) : upd f k x j = f j := by unfold upd; exact if_neg h

/-! how many places hold a point -/
def nt_cnt (f : Nat → Int32) : Nat → Nat
  | 0 => 0
  | n + 1 => nt_cnt f n + (if f n = 0 then 0 else 1)
theorem nt_cnt_t {f : Nat → Int32} {n : Nat} (h : f n = 0) : nt_cnt f (n + 1) = nt_cnt f n := by
  show nt_cnt f n + (if f n = 0 then 0 else 1) = _
  rw [if_pos h]; rfl
theorem nt_cnt_f {f : Nat → Int32} {n : Nat} (h : ¬ f n = 0) : nt_cnt f (n + 1) = nt_cnt f n + 1 := by
  show nt_cnt f n + (if f n = 0 then 0 else 1) = _
  rw [if_neg h]
theorem nt_cnt_le (f : Nat → Int32) (n : Nat) : nt_cnt f n ≤ n := by
  induction n with
  | zero => exact Nat.le_refl _
  | succ n ih =>
    by_cases h : f n = 0
    · rw [nt_cnt_t h]; omega
    · rw [nt_cnt_f h]; omega
theorem nt_cnt_lt {f : Nat → Int32} {n p : Nat} (hp : p < n) (hz : f p = 0) : nt_cnt f n < n := by
  induction n with
  | zero => omega
  | succ n ih =>
    by_cases e : p = n
    · have := nt_cnt_le f n
      rw [nt_cnt_t (by rw [← e]; exact hz)]; omega
    · have := ih (by omega)
      by_cases h : f n = 0
      · rw [nt_cnt_t h]; omega
      · rw [nt_cnt_f h]; omega
theorem nt_cnt_all {f : Nat → Int32} {n : Nat} (h : ∀ p, p < n → ¬ f p = 0) : nt_cnt f n = n := by
  induction n with
  | zero => rfl
  | succ n ih => rw [nt_cnt_f (h n (by omega)), ih (fun p hp => h p (by omega))]
theorem nt_cnt_out {f : Nat → Int32} {p : Nat} {v : Int32} {n : Nat} (h : n ≤ p) : nt_cnt (upd f p v) n = nt_cnt f n := by
  induction n with
  | zero => rfl
  | succ n ih =>
    have e : upd f p v n = f n := nt_un (by omega)
    have i := ih (by omega)
    by_cases z : f n = 0
    · rw [nt_cnt_t z, nt_cnt_t (e.trans z), i]
    · rw [nt_cnt_f z, nt_cnt_f (by rw [e]; exact z), i]
theorem nt_cnt_put {f : Nat → Int32} {p : Nat} {v : Int32} {n : Nat} (hp : p < n) (hz : f p = 0) (hv : ¬ v = 0) : nt_cnt (upd f p v) n = nt_cnt f n + 1 := by
  induction n with
  | zero => omega
  | succ n ih =>
    by_cases e : n = p
    · subst e
      rw [nt_cnt_t hz, nt_cnt_f (by rw [nt_us]; exact hv), nt_cnt_out (Nat.le_refl _)]
    · have en : upd f p v n = f n := nt_un e
      have i := ih (by omega)
      by_cases z : f n = 0
      · rw [nt_cnt_t z, nt_cnt_t (en.trans z), i]
      · rw [nt_cnt_f z, nt_cnt_f (by rw [en]; exact z), i]
theorem nt_cnt_del {f : Nat → Int32} {p n : Nat} (hp : p < n) (hz : ¬ f p = 0) : nt_cnt (upd f p 0) n + 1 = nt_cnt f n := by
  induction n with
  | zero => omega
  | succ n ih =>
    by_cases e : n = p
    · subst e
      rw [nt_cnt_f hz, nt_cnt_t nt_us, nt_cnt_out (Nat.le_refl _)]
    · have en : upd f p 0 n = f n := nt_un e
      have i := ih (by omega)
      by_cases z : f n = 0
      · rw [nt_cnt_t z, nt_cnt_t (en.trans z), i]
      · rw [nt_cnt_f z, nt_cnt_f (by rw [en]; exact z), i]

/-! the relation: the same places, the same spots, the same dense marks; the count is the number of points; the spots lie within 100 -/
def nt_ok (x : Int32) : Prop := -100 ≤ x.toInt ∧ x.toInt ≤ 100
def i_Rel (_ : Nat) (u : SX) (v : SY) : Prop :=
  ∃ xs ys tk dn cl gr : Nat → Int32, u = (nI (nt_cnt tk 24), xs, ys, tk, dn, cl) ∧ v = (tk, xs, ys, dn, gr) ∧ ∀ i, nt_ok (xs i) ∧ nt_ok (ys i)
theorem i_up {k : Nat} {u : SX} {v : SY} (h : i_Rel k u v) : i_Rel (k + 5) u v := h
theorem nt_ok0 : nt_ok 0 := by unfold nt_ok; decide
theorem i_vc0 : wpX_init (fun u => wpY_init (fun v => i_Rel 0 u v)) :=
  ⟨fun _ => 0, fun _ => 0, fun _ => 0, fun _ => 0, fun _ => 0, fun _ => 0, by
    have h : ∀ n, nt_cnt (fun _ => 0) n = 0 := by
      intro n
      induction n with
      | zero => rfl
      | succ n ih => rw [nt_cnt_t rfl, ih]
    rw [h, nI_0], rfl, fun _ => ⟨nt_ok0, nt_ok0⟩⟩

/-! distance -/
def nt_d (xs ys : Nat → Int32) (p : Nat) (x y : Int32) : Int32 := (xs p - x) * (xs p - x) + (ys p - y) * (ys p - y)
theorem nt_dX {post : Int32 → Prop} {c : Int32} {xs ys tk dn cl : Nat → Int32} {p : Nat} {x y : Int32} (hp : p < 24) (h : post (nt_d xs ys p x y)) : wpX_distanceFrom post (c, xs, ys, tk, dn, cl) (nI p) x y := by
  unfold wpX_distanceFrom
  dsimp only
  rw [nt_cl hp]
  exact ⟨nt_in hp, nm_e ⟨nt_in hp, nm_e h⟩⟩
theorem nt_dY {post : Int32 → Prop} {tk xs ys dn gr : Nat → Int32} {p : Nat} {x y : Int32} (hp : p < 24) (h : post (nt_d xs ys p x y)) : wpY_distance post (tk, xs, ys, dn, gr) (nI p) x y := by
  unfold wpY_distance
  dsimp only
  rw [nt_cl hp]
  exact ⟨nt_in hp, nt_in hp, nt_in hp, nt_in hp, h⟩
theorem nt_sq (a b : Int32) : (a - b) * (a - b) = (b - a) * (b - a) := by grind
theorem nt_dsym (xs ys : Nat → Int32) (p q : Nat) : nt_d xs ys p (xs q) (ys q) = nt_d xs ys q (xs p) (ys p) := by
  unfold nt_d
  rw [nt_sq (xs p) (xs q), nt_sq (ys p) (ys q)]
/-- a spot within 100 of the middle, told apart by Java's comparisons -/
def nt_out (x y m : Int32) : Prop := x < -m ∨ m < x ∨ y < -m ∨ m < y
theorem nt_outX {post : Int32 → Prop} {x y m : Int32} (h : nt_out x y m) (hp : post 1) : wpX_isOutside post x y m := by
  refine br_c (fun _ => hp) fun a => br_c (fun _ => hp) fun b => br_c (fun _ => hp) fun e => br_c (fun f => ?_) (fun _ => hp)
  rcases h with h | h | h | h
  · exact absurd h a
  · exact absurd h b
  · exact absurd h e
  · exact absurd h (Int32.not_lt.mpr f)
theorem nt_insX {post : Int32 → Prop} {x y m : Int32} (h : ¬ nt_out x y m) (hp : post 0) : wpX_isOutside post x y m := by
  refine br_f (fun z => h (Or.inl z)) (br_f (fun z => h (Or.inr (Or.inl z))) (br_f (fun z => h (Or.inr (Or.inr (Or.inl z)))) (br_t ?_ hp)))
  exact Int32.not_lt.mp (fun z => h (Or.inr (Or.inr (Or.inr z))))
theorem nt_outY {post : Int32 → Prop} {v : SY} {x y m : Int32} (h : nt_out x y m) (hp : post 0) : wpY_isSpot post v x y m := by
  refine br_c (fun _ => hp) fun a => br_c (fun _ => hp) fun b => br_c (fun _ => hp) fun e => br_c (fun _ => hp) fun f => ?_
  rcases h with h | h | h | h
  · exact absurd h a
  · exact absurd h b
  · exact absurd h e
  · exact absurd h f
theorem nt_insY {post : Int32 → Prop} {v : SY} {x y m : Int32} (h : ¬ nt_out x y m) (hp : post 1) : wpY_isSpot post v x y m :=
  br_f (fun z => h (Or.inl z)) (br_f (fun z => h (Or.inr (Or.inl z))) (br_f (fun z => h (Or.inr (Or.inr (Or.inl z)))) (br_f (fun z => h (Or.inr (Or.inr (Or.inr z)))) hp)))
theorem nt_okof {x y : Int32} (h : ¬ nt_out x y 100) : nt_ok x ∧ nt_ok y := by
  unfold nt_out at h
  simp only [Int32.lt_iff_toInt_lt] at h
  have e : (-(100 : Int32)).toInt = -100 := by decide
  have f : (100 : Int32).toInt = 100 := by decide
  rw [e, f] at h
  unfold nt_ok
  omega
/-- the place holds a point -/
def nt_has (tk : Nat → Int32) (x : Int32) : Prop := ∃ p : Nat, p < 24 ∧ x = nI p ∧ ¬ tk p = 0
theorem nt_ix (x : Int32) : x < 0 ∨ ((24 : Int32) ≤ x) ∨ ∃ p : Nat, p < 24 ∧ x = nI p := by
  by_cases h : x < 0
  · exact Or.inl h
  · obtain ⟨j, hj, rfl⟩ := nI_of h
    by_cases g : j < 24
    · exact Or.inr (Or.inr ⟨j, g, rfl⟩)
    · exact Or.inr (Or.inl (by rw [← nt_24]; exact nI_le (by omega) hj))
theorem nt_hasX {post : Int32 → Prop} {c : Int32} {xs ys tk dn cl : Nat → Int32} {p : Nat} (hp : p < 24) (h : ¬ tk p = 0) (h1 : post 1) : wpX_hasPoint post (c, xs, ys, tk, dn, cl) (nI p) :=
  br_f (nI_pos (by omega)) (br_f (nt_ge hp) ⟨nt_in hp, br_f (by rw [nt_cl hp]; exact h) h1⟩)
theorem nt_nasX {post : Int32 → Prop} {c : Int32} {xs ys tk dn cl : Nat → Int32} {x : Int32} (h : ¬ nt_has tk x) (h0 : post 0) : wpX_hasPoint post (c, xs, ys, tk, dn, cl) x := by
  rcases nt_ix x with g | g | ⟨p, hp, rfl⟩
  · exact br_t g h0
  · exact br_c (fun _ => h0) fun _ => br_t g h0
  · refine br_c (fun _ => h0) fun _ => br_c (fun _ => h0) fun _ => ⟨nt_in hp, br_c (fun _ => h0) fun z => ?_⟩
    rw [nt_cl hp] at z
    exact absurd ⟨p, hp, rfl, z⟩ h
theorem nt_g23 {j : Nat} (h : j < 24) : ¬ (23 : Int32) < nI j := by rw [← nt_23]; exact nI_nlt (by omega) (by decide)
theorem nt_hasY {post : Int32 → Prop} {xs ys tk dn gr : Nat → Int32} {p : Nat} (hp : p < 24) (h : ¬ tk p = 0) (h1 : post 1) : wpY_isPoint post (tk, xs, ys, dn, gr) (nI p) :=
  br_f (nI_pos (by omega)) (br_f (nt_g23 hp) ⟨nt_in hp, br_f (by rw [nt_cl hp]; exact h) h1⟩)
theorem nt_nasY {post : Int32 → Prop} {xs ys tk dn gr : Nat → Int32} {x : Int32} (h : ¬ nt_has tk x) (h0 : post 0) : wpY_isPoint post (tk, xs, ys, dn, gr) x := by
  rcases nt_ix x with g | g | ⟨p, hp, rfl⟩
  · exact br_t g h0
  · refine br_c (fun _ => h0) fun _ => br_t ?_ h0
    rw [Int32.lt_iff_toInt_lt]
    rw [Int32.le_iff_toInt_le] at g
    have e : (24 : Int32).toInt = 24 := by decide
    have f : (23 : Int32).toInt = 23 := by decide
    omega
  · refine br_c (fun _ => h0) fun _ => br_c (fun _ => h0) fun _ => ⟨nt_in hp, br_c (fun _ => h0) fun z => ?_⟩
    rw [nt_cl hp] at z
    exact absurd ⟨p, hp, rfl, z⟩ h
end
