/-! add -/
theorem nt_put {post : Int32 → SX → Prop} {c : Int32} {xs ys tk dn cl : Nat → Int32} {f : Nat} {x y : Int32} (hf : f < 24) (h : post (nI f) (c + 1, upd xs f x, upd ys f y, upd tk f 1, dn, cl)) : wX_add_47 post x y (nI f) c xs ys tk dn cl := by
  unfold wX_add_47
  rw [nt_cl hf, nt_b1]
  exact ⟨nt_in hf, nm_e ⟨nt_in hf, nm_e ⟨nt_in hf, nm_e (nm_e h)⟩⟩⟩
theorem nt_g22 {j : Nat} (h : j < 23) : ¬ (23 : Int32) ≤ nI j := by rw [← nt_23]; exact nI_ge h (by decide)
theorem nt_addX {post : Int32 → SX → Prop} {c : Int32} {xs ys tk dn cl : Nat → Int32} {f : Nat} {x y : Int32} (hf : f < 24) (hz : tk f = 0) (hq : ∀ q, q < f → ¬ tk q = 0) (h : wX_add_47 post x y (nI f) c xs ys tk dn cl) : ∀ d j : Nat, j + d = f → wX_add_26 post x y c xs ys tk dn cl (d + 1) (nI j) := by
  intro d
  induction d with
  | zero =>
    intro j hj
    have e : j = f := by omega
    subst e
    exact br_c (fun _ => h) (fun _ => ⟨nt_in hf, br_t (by rw [nt_cl hf]; exact hz) h⟩)
  | succ d ih =>
    intro j hj
    have hl : j < 24 := by omega
    exact br_f (nt_g22 (by omega)) ⟨nt_in hl, br_f (by rw [nt_cl hl]; exact hq j (by omega)) (nm_r (nI_1 j) (ih (j + 1) (by omega)))⟩
theorem nt_addY {post : Int32 → SY → Prop} {xs ys tk dn gr : Nat → Int32} {f : Nat} {x y : Int32} (hf : f ≤ 24) (hq : ∀ q, q < f → ¬ tk q = 0) (h : wY_add_2 post x y tk xs ys dn gr 1 (nI f)) : ∀ d j : Nat, j + d = f → wY_add_2 post x y tk xs ys dn gr (d + 1) (nI j) := by
  intro d
  induction d with
  | zero =>
    intro j hj
    have e : j = f := by omega
    subst e
    exact h
  | succ d ih =>
    intro j hj
    have hl : j < 24 := by omega
    exact br_f (nt_ge hl) ⟨nt_in hl, br_f (by rw [nt_cl hl]; exact hq j (by omega)) (nm_r (nI_1 j) (ih (j + 1) (by omega)))⟩
theorem nt_first (tk : Nat → Int32) : ∀ n, (∀ q, q < n → ¬ tk q = 0) ∨ ∃ f, f < n ∧ tk f = 0 ∧ ∀ q, q < f → ¬ tk q = 0 := by
  intro n
  induction n with
  | zero => exact Or.inl (fun q hq => absurd hq (Nat.not_lt_zero q))
  | succ n ih =>
    rcases ih with h | ⟨f, hf, hz, hq⟩
    · by_cases z : tk n = 0
      · exact Or.inr ⟨n, by omega, z, h⟩
      · refine Or.inl (fun q hq => ?_)
        by_cases e : q = n
        · rw [e]; exact z
        · exact h q (by omega)
    · exact Or.inr ⟨f, by omega, hz, hq⟩
theorem nt_okupd {xs : Nat → Int32} {f : Nat} {x : Int32} (h : ∀ i, nt_ok (xs i)) (hx : nt_ok x) (i : Nat) : nt_ok (upd xs f x i) := by
  by_cases e : i = f
  · rw [e, nt_us]; exact hx
  · rw [nt_un e]; exact h i
theorem nt_okput {xs ys : Nat → Int32} {f : Nat} {x y : Int32} (ok : ∀ i, nt_ok (xs i) ∧ nt_ok (ys i)) (h : ¬ nt_out x y 100) (i : Nat) : nt_ok (upd xs f x i) ∧ nt_ok (upd ys f y i) :=
  ⟨nt_okupd (fun i => (ok i).1) (nt_okof h).1 i, nt_okupd (fun i => (ok i).2) (nt_okof h).2 i⟩
theorem i_vc_add {k : Nat} {u : SX} {v : SY} (I : i_Rel k u v) (hk : k + 5 ≤ 2560) (v1 : Int32) (v2 : Int32) : wpX_add (fun r u' => wpY_add (fun r' v' => r' = r ∧ i_Rel (k + 5) u' v') v v1 v2) u v1 v2 := by
  obtain ⟨xs, ys, tk, dn, cl, gr, rfl, rfl, ok⟩ := I
  rcases nt_first tk 24 with ha | ⟨f, hf, hz, hq⟩
  · have hn : ¬ nI (nt_cnt tk 24) < 24 := by
      rw [nt_cnt_all ha, ← nt_24]
      exact nI_nlt (Nat.le_refl _) (by decide)
    exact br_f hn ⟨25, nt_addY (Nat.le_refl _) ha (br_t nt_end ⟨rfl, xs, ys, tk, dn, cl, gr, rfl, rfl, ok⟩) 24 0 rfl⟩
  · have hn : nI (nt_cnt tk 24) < 24 := by
      rw [← nt_24]
      exact nI_lt (nt_cnt_lt hf hz) (by decide)
    by_cases ho : nt_out v1 v2 100
    · refine br_t hn (nt_outX ho (br_f nt_10 ⟨f + 1, nt_addY (f := f) (by omega) hq ?_ f 0 (by omega)⟩))
      exact br_f (nt_ge hf) ⟨nt_in hf, br_t (by rw [nt_cl hf]; exact hz) (nt_outY ho (br_t rfl ⟨rfl, xs, ys, tk, dn, cl, gr, rfl, rfl, ok⟩))⟩
    · refine br_t hn (nt_insX ho (br_t rfl ⟨f + 1, nt_addX hf hz hq (nt_put hf ⟨f + 1, nt_addY (f := f) (by omega) hq ?_ f 0 (by omega)⟩) f 0 (by omega)⟩))
      refine br_f (nt_ge hf) ⟨nt_in hf, br_t (by rw [nt_cl hf]; exact hz) (nt_insY ho (br_f nt_10 ?_))⟩
      rw [nt_cl hf, nt_b1]
      refine ⟨nt_in hf, nm_e ⟨nt_in hf, nm_e ⟨nt_in hf, nm_e ⟨rfl, upd xs f v1, upd ys f v2, upd tk f 1, dn, cl, gr, ?_, rfl, nt_okput ok ho⟩⟩⟩⟩
      rw [nI_1, nt_cnt_put hf hz nt_10]

/-! remove, move, size -/
theorem i_vc_remove {k : Nat} {u : SX} {v : SY} (I : i_Rel k u v) (hk : k + 5 ≤ 2560) (v1 : Int32) : wpX_remove (fun r u' => wpY_remove (fun r' v' => r' = r ∧ i_Rel (k + 5) u' v') v v1) u v1 := by
  obtain ⟨xs, ys, tk, dn, cl, gr, rfl, rfl, ok⟩ := I
  unfold wpX_remove wpY_remove
  dsimp only
  by_cases h : nt_has tk v1
  · obtain ⟨p, hp, rfl, hz⟩ := h
    have e : nI (nt_cnt tk 24) - 1 = nI (nt_cnt (upd tk p 0) 24) := by
      rw [← nt_cnt_del hp hz]
      exact nI_pred _
    refine nt_hasX hp hz (br_f nt_10 ?_)
    rw [nt_cl hp, nt_b0]
    exact ⟨nt_in hp, nm_e (nm_r e (nt_hasY hp hz (br_f nt_10 ⟨nt_in hp, nm_e (nt_sizeW ⟨rfl, xs, ys, upd tk p 0, dn, cl, gr, rfl, rfl, ok⟩)⟩)))⟩
  · exact nt_nasX h (br_t rfl (nt_nasY h (br_t rfl ⟨rfl, xs, ys, tk, dn, cl, gr, rfl, rfl, ok⟩)))
theorem i_vc_move {k : Nat} {u : SX} {v : SY} (I : i_Rel k u v) (hk : k + 5 ≤ 2560) (v1 : Int32) (v2 : Int32) (v3 : Int32) : wpX_move (fun r u' => wpY_move (fun r' v' => r' = r ∧ i_Rel (k + 5) u' v') v v1 v2 v3) u v1 v2 v3 := by
  obtain ⟨xs, ys, tk, dn, cl, gr, rfl, rfl, ok⟩ := I
  unfold wpX_move wpY_move
  dsimp only
  by_cases h : nt_has tk v1
  · obtain ⟨p, hp, rfl, hz⟩ := h
    by_cases ho : nt_out v2 v3 100
    · exact nt_hasX hp hz (br_f nt_10 (nt_outX ho (br_f nt_10 (nt_hasY hp hz (br_f nt_10 (nt_outY ho (br_t rfl ⟨rfl, xs, ys, tk, dn, cl, gr, rfl, rfl, ok⟩)))))))
    · refine nt_hasX hp hz (br_f nt_10 (nt_insX ho (br_t rfl (nt_dX hp ?_))))
      rw [nt_cl hp]
      exact ⟨nt_in hp, nm_e ⟨nt_in hp, nm_e (nt_hasY hp hz (br_f nt_10 (nt_insY ho (br_f nt_10 (nt_dY hp ⟨nt_in hp, nm_e ⟨nt_in hp, nm_e ⟨rfl, upd xs p v2, upd ys p v3, tk, dn, cl, gr, rfl, rfl, nt_okput ok ho⟩⟩⟩)))))⟩⟩
  · exact nt_nasX h (br_t rfl (nt_nasY h (br_t rfl ⟨rfl, xs, ys, tk, dn, cl, gr, rfl, rfl, ok⟩)))
theorem i_vc_size {k : Nat} {u : SX} {v : SY} (I : i_Rel k u v) (hk : k + 5 ≤ 2560) : wpX_size (fun r => wpY_size (fun r' => r' = r ∧ i_Rel (k + 5) u v) v) u := by
  obtain ⟨xs, ys, tk, dn, cl, gr, rfl, rfl, ok⟩ := I
  unfold wpX_size
  dsimp only
  exact nt_sizeW ⟨rfl, xs, ys, tk, dn, cl, gr, rfl, rfl, ok⟩

/-! nearest, within, inBox -/
theorem i_vc_nearest {k : Nat} {u : SX} {v : SY} (I : i_Rel k u v) (hk : k + 5 ≤ 2560) (v1 : Int32) (v2 : Int32) (v3 : Int32) : wpX_nearest (fun r => wpY_nearest (fun r' => r' = r ∧ i_Rel (k + 5) u v) v v1 v2 v3) u v1 v2 v3 := by
  obtain ⟨xs, ys, tk, dn, cl, gr, rfl, rfl, ok⟩ := I
  unfold wpX_nearest wpY_nearest
  dsimp only
  by_cases ho : nt_out v1 v2 200
  · exact nt_outX ho (br_f nt_10 (nt_outY ho (br_t rfl ⟨rfl, xs, ys, tk, dn, cl, gr, rfl, rfl, ok⟩)))
  · obtain ⟨r, hX, hY⟩ := nt_nst0 (nI (nt_cnt tk 24)) xs ys tk dn cl gr v1 v2 v3 24 0 rfl
    exact nt_insX ho (br_t rfl ⟨25, hX _ (nt_insY ho (br_f nt_10 ⟨25, hY _ ⟨rfl, xs, ys, tk, dn, cl, gr, rfl, rfl, ok⟩⟩))⟩)
theorem i_vc_within {k : Nat} {u : SX} {v : SY} (I : i_Rel k u v) (hk : k + 5 ≤ 2560) (v1 : Int32) (v2 : Int32) (v3 : Int32) : wpX_within (fun r => wpY_within (fun r' => r' = r ∧ i_Rel (k + 5) u v) v v1 v2 v3) u v1 v2 v3 := by
  obtain ⟨xs, ys, tk, dn, cl, gr, rfl, rfl, ok⟩ := I
  unfold wpX_within wpY_within
  dsimp only
  by_cases ho : nt_out v1 v2 200
  · exact nt_outX ho (br_f nt_10 (nt_outY ho (br_t rfl ⟨rfl, xs, ys, tk, dn, cl, gr, rfl, rfl, ok⟩)))
  · obtain ⟨r, hX, hY⟩ := nt_near (nI (nt_cnt tk 24)) xs ys tk dn cl gr v1 v2 v3
    exact nt_insX ho (br_t rfl (hX _ (nt_insY ho (br_f nt_10 (hY _ ⟨rfl, xs, ys, tk, dn, cl, gr, rfl, rfl, ok⟩)))))
theorem i_vc_inBox {k : Nat} {u : SX} {v : SY} (I : i_Rel k u v) (hk : k + 5 ≤ 2560) (v1 : Int32) (v2 : Int32) (v3 : Int32) (v4 : Int32) : wpX_inBox (fun r => wpY_inBox (fun r' => r' = r ∧ i_Rel (k + 5) u v) v v1 v2 v3 v4) u v1 v2 v3 v4 := by
  obtain ⟨xs, ys, tk, dn, cl, gr, rfl, rfl, ok⟩ := I
  obtain ⟨r, hX, hY⟩ := nt_box0 (nI (nt_cnt tk 24)) xs ys tk dn cl gr v1 v2 v3 v4 24 0 rfl 0
  exact ⟨25, hX _ ⟨25, hY _ ⟨rfl, xs, ys, tk, dn, cl, gr, rfl, rfl, ok⟩⟩⟩
