/-! ===== step: both sides work the same instants ===== -/
theorem st_I {w : Nat} {kn op ne be fi la nw : Nat → Int32} (hI : md_I w kn op ne be fi la) : md_I (w + 1) kn op ne (mf_cp 18 (fun _ => 1) be) (mf_cp 18 (fun _ => 0) fi) (mf_cp 18 nw la) := by
  refine ⟨hI.1, ?_, hI.2.2.1, fun z => absurd z (by omega)⟩
  intro j hj
  rw [mf_lt _ _ hj, mf_lt _ _ hj]
  exact ⟨fun z => absurd z (by decide), fun z => absurd rfl z⟩
theorem st_y2 (post : Int32 → SY → Prop) (x1 : Int32) (m : Nat) (hY2 : ∀ j, m ≤ j → j < 100 → x1 ≤ nI j) (fw : Int32) (kn op cs fi inp la nw ha nq : Nat → Int32) (h : post fw (fw, kn, op, cs, fi, inp, la, nw, ha, nq)) : ∀ d i, i + d = 100 → m ≤ i → wY_step_2 post x1 (d + 1) (nI i) fw kn op cs fi inp la nw ha nq := by
  intro d
  induction d with
  | zero =>
    intro i hi hm
    obtain rfl : i = 100 := by omega
    exact br_t (by decide) h
  | succ d ih =>
    intro i hi hm
    exact br_f (nI_ge (b := 100) (by omega) (by decide)) (br_t (hY2 i hm (by omega)) (nm_r (nI_1 i) (ih (i + 1) (by omega) (by omega))))
theorem st_run (x1 x2 : Int32) (m : Nat) (hm : m ≤ 100) (hX1 : ∀ j, j < m → ¬ x2 ≤ nI j) (hX2 : x2 ≤ nI m) (hY1 : ∀ j, j < m → ¬ x1 ≤ nI j) (hY2 : ∀ j, m ≤ j → j < 100 → x1 ≤ nI j) (kn op cs ne inp nq : Nat → Int32) : ∀ (d i w : Nat) (be fi la nw ha : Nat → Int32), i + d = m → md_I w kn op ne be fi la → ∃ be' fi' la' nw' ha' : Nat → Int32, md_I (w + d) kn op ne be' fi' la' ∧ (∀ post : Int32 → SX → Prop, post (nI (w + d)) (nI (w + d), kn, op, cs, ne, be', inp, la', nw') → wX_step_15 post x2 (d + 1) (nI i) (nI w) kn op cs ne be inp la nw) ∧ (∀ post : Int32 → SY → Prop, post (nI (w + d)) (nI (w + d), kn, op, cs, fi', inp, la', nw', ha', nq) → wY_step_2 post x1 (100 - m + d + 1) (nI i) (nI w) kn op cs fi inp la nw ha nq) := by
  intro d
  induction d with
  | zero =>
    intro i w be fi la nw ha hi hI
    obtain rfl : i = m := by omega
    exact ⟨be, fi, la, nw, ha, hI, fun post h => br_t hX2 h, fun post h => st_y2 post x1 i hY2 (nI w) kn op cs fi inp la nw ha nq h (100 - i) i (by omega) (Nat.le_refl i)⟩
  | succ d ih =>
    intro i w be fi la nw ha hi hI
    obtain ⟨be', fi', la', nw', ha', hI', hX, hY⟩ := ih (i + 1) (w + 1) (mf_cp 18 (fun _ => 1) be) (mf_cp 18 (fun _ => 0) fi) (mf_cp 18 (xi_p kn op cs ne be inp la nw).2 la) (xi_p kn op cs ne be inp la nw).2 (mf_cp 18 (yw_h (xi_p kn op cs ne be inp la nw).1) ha) (by omega) (st_I hI)
    have ew : w + 1 + d = w + (d + 1) := by omega
    rw [ew] at hI' hX hY
    refine ⟨be', fi', la', nw', ha', hI', fun post h => ?_, fun post h => ?_⟩
    · have W := hX post h
      refine br_f (hX1 i (by omega)) (xi_work (nI w) kn op cs ne be inp la nw _ (fun j hj => (hI.1 j hj).1) ?_)
      refine xi_keep (nI w) kn op cs ne be inp la _ _ (nm_r (nI_1 i) ?_)
      rw [nI_1]
      exact W
    · have W := hY post h
      refine br_f (nI_ge (b := 100) (by omega) (by decide)) (br_f (hY1 i (by omega)) (yi_inst (nI w) kn op cs ne be fi inp la ha nq nw hI.1 hI.2.1 _ ⟨19, ?_⟩))
      refine yi_s19 (nI w) kn op cs fi inp la _ _ nq post _ x1 (nI i) ?_ 18 0 rfl
      rw [nI_1, nI_1]
      exact W
/-- how many instants a call of step works: for both sides the same -/
theorem st_cnt (x : Int32) : ∃ (m : Nat) (x2 : Int32), m ≤ 100 ∧ ((x ≤ 100 ∧ x2 = x) ∨ (¬ x ≤ 100 ∧ x2 = 100)) ∧ (∀ j, j < m → ¬ x2 ≤ nI j) ∧ x2 ≤ nI m ∧ (∀ j, j < m → ¬ x ≤ nI j) ∧ (∀ j, m ≤ j → j < 100 → x ≤ nI j) := by
  by_cases h0 : x < 0
  · have hle : ∀ j : Nat, j ≤ 100 → x ≤ nI j := by
      intro j hj
      exact Int32.le_trans (Int32.le_of_lt h0) (nI_pos' (by omega))
    refine ⟨0, x, by omega, Or.inl ⟨hle 100 (by omega), rfl⟩, fun j z => absurd z (by omega), hle 0 (by omega), fun j z => absurd z (by omega), fun j _ z => hle j (by omega)⟩
  · obtain ⟨q, hq, rfl⟩ := nI_of h0
    rcases Nat.lt_or_ge 100 q with z | z
    · refine ⟨100, 100, by omega, Or.inr ⟨nI_ge (a := 100) z hq, rfl⟩, fun j hj => nI_ge (b := 100) hj (by decide), (by decide), fun j hj => nI_ge (by omega) hq, fun j h1 h2 => absurd h1 (by omega)⟩
    · refine ⟨q, nI q, z, Or.inl ⟨nI_le (b := 100) z (by decide), rfl⟩, fun j hj => nI_ge hj hq, nI_le (Nat.le_refl q) hq, fun j hj => nI_ge hj hq, fun j h1 h2 => nI_le h1 (by omega)⟩
theorem i_vc_step {k : Nat} {u : SX} {v : SY} (I : i_Rel k u v) (hk : k + 5 ≤ 2560) (v1 : Int32) : wpX_step (fun r u' => wpY_step (fun r' v' => r' = r ∧ i_Rel (k + 5) u' v') v v1) u v1 := by
  obtain ⟨w, kn, op, cs, ne, be, fi, inp, la, nw, ha, nq, hw, rfl, rfl, hI⟩ := I
  obtain ⟨m, x2, hm, hx, hX1, hX2, hY1, hY2⟩ := st_cnt v1
  obtain ⟨be', fi', la', nw', ha', hI', hX, hY⟩ := st_run v1 x2 m hm hX1 hX2 hY1 hY2 kn op cs ne inp nq m 0 w be fi la nw ha (by omega) hI
  have Y : wpY_step (fun r' v' => r' = nI (w + m) ∧ i_Rel (k + 5) (nI (w + m), kn, op, cs, ne, be', inp, la', nw') v') (nI w, kn, op, cs, fi, inp, la, nw, ha, nq) v1 :=
    ⟨_, hY _ ⟨rfl, md_mk (by omega) hI'⟩⟩
  have X := hX (fun r u' => wpY_step (fun r' v' => r' = r ∧ i_Rel (k + 5) u' v') (nI w, kn, op, cs, fi, inp, la, nw, ha, nq) v1) Y
  rcases hx with ⟨hx, rfl⟩ | ⟨hx, rfl⟩
  · exact br_t hx ⟨_, X⟩
  · exact br_f hx ⟨_, X⟩
