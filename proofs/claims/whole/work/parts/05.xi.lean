/-! ===== the component's instant ===== -/
section
variable (fw : Int32) (kn op cs ne be inp la : Nat → Int32)
def xi_v : (Nat → Int32) → Nat → Int32 := fun now f => mv_val (kn f) (op f) (cs f) (be f) inp la now f
theorem xi_12 (post : SX → Prop) (J4 : Int32 → Int32 → (Nat → Int32) → (Nat → Int32) → (Nat → Int32) → (Nat → Int32) → (Nat → Int32) → (Nat → Int32) → (Nat → Int32) → (Nat → Int32) → Prop) (x2 : Int32) (hk : ∀ j, j < 18 → mk_9 (kn j)) (p : Int32 × (Nat → Int32)) (hJ : J4 (mi_pass ne (xi_v kn op cs be inp la) 18 p).1 (x2 + 1) kn op cs ne be inp la (mi_pass ne (xi_v kn op cs be inp la) 18 p).2) : ∀ d j, j + d = 18 → wX_workOutInstant_12 post J4 x2 fw (d + 1) (mi_pass ne (xi_v kn op cs be inp la) j p).1 (nI j) kn op cs ne be inp la (mi_pass ne (xi_v kn op cs be inp la) j p).2 := by
  intro d
  induction d with
  | zero =>
    intro j hj
    obtain rfl : j = 18 := by omega
    exact br_t mh_18 (nm_e hJ)
  | succ d ih =>
    intro j hj
    have hj18 : j < 18 := by omega
    have I := ih (j + 1) (by omega)
    have eR : mi_pass ne (xi_v kn op cs be inp la) (j + 1) p = mi_row ne (xi_v kn op cs be inp la) (mi_pass ne (xi_v kn op cs be inp la) j p) j := rfl
    revert I
    rw [eR]
    generalize mi_pass ne (xi_v kn op cs be inp la) j p = q
    intro I
    refine br_f (mh_ge hj18) ⟨mh_in hj18, br_c (fun c => ?_) (fun c => ?_)⟩
    · rw [mh_cl hj18] at c
      refine br_f (by decide) (xw_con hj18 (fun b => br_t rfl ?_) (fun b => br_f (by decide) (nm_r (nI_1 j) ?_)))
      · refine xw_val fw kn op cs ne be inp la q.2 _ j hj18 (hk j hj18) ⟨mh_in32 hj18, nm_e (nm_e (nm_r (nI_1 j) ?_))⟩
        rw [mi_t ne _ c b] at I
        rw [mh_cl hj18]
        exact I
      · rw [mi_f2 ne _ b] at I
        exact I
    · rw [mh_cl hj18] at c
      refine br_t rfl (nm_r (nI_1 j) ?_)
      rw [mi_f1 ne _ c] at I
      exact I
theorem xi_4 (post : SX → Prop) (hk : ∀ j, j < 18 → mk_9 (kn j)) (p : Int32 × (Nat → Int32)) (h : post (fw, kn, op, cs, ne, be, inp, la, (mi_all ne (xi_v kn op cs be inp la) 18 p).2)) : ∀ d r, r + d = 18 → wX_workOutInstant_4 post fw (d + 1) (mi_all ne (xi_v kn op cs be inp la) r p).1 (nI r) kn op cs ne be inp la (mi_all ne (xi_v kn op cs be inp la) r p).2 := by
  intro d
  induction d with
  | zero =>
    intro j hj
    obtain rfl : j = 18 := by omega
    exact br_t mh_18 h
  | succ d ih =>
    intro r hr
    refine br_f (mh_ge (by omega)) ⟨19, xi_12 fw kn op cs ne be inp la post _ (nI r) hk (mi_all ne (xi_v kn op cs be inp la) r p) ?_ 18 0 rfl⟩
    rw [nI_1]
    exact ih (r + 1) (by omega)
/-- the values of the next instant -/
noncomputable def xi_p (nw : Nat → Int32) : Int32 × (Nat → Int32) := mi_all ne (xi_v kn op cs be inp la) 18 (0, nw)
theorem xi_work (nw : Nat → Int32) (post : SX → Prop) (hk : ∀ j, j < 18 → mk_9 (kn j)) (h : post (fw, kn, op, cs, ne, be, inp, la, (xi_p kn op cs ne be inp la nw).2)) : wpX_workOutInstant post (fw, kn, op, cs, ne, be, inp, la, nw) :=
  ⟨19, xi_4 fw kn op cs ne be inp la post hk (0, nw) h 18 0 rfl⟩
theorem xi_k2 (nw : Nat → Int32) (post : SX → Prop) (h : post (fw + 1, kn, op, cs, ne, mf_cp 18 (fun _ => 1) be, inp, mf_cp 18 nw la, nw)) : ∀ d j, j + d = 18 → wX_keepInstant_2 post fw (d + 1) (nI j) kn op cs ne (mf_cp j (fun _ => 1) be) inp (mf_cp j nw la) nw := by
  intro d
  induction d with
  | zero =>
    intro j hj
    obtain rfl : j = 18 := by omega
    exact br_t mh_18 (nm_e h)
  | succ d ih =>
    intro j hj
    have hj18 : j < 18 := by omega
    have I := ih (j + 1) (by omega)
    refine br_f (mh_ge hj18) ⟨mh_in32 hj18, mh_in32 hj18, nm_r (e' := mf_cp (j + 1) nw la) ?_ ⟨mh_in hj18, nm_r (e' := mf_cp (j + 1) (fun _ => 1) be) ?_ (nm_r (nI_1 j) I)⟩⟩
    · rw [mh_cl hj18]
      exact mf_s j nw la
    · rw [mh_cl hj18, mh_b1]
      exact mf_s j (fun _ => 1) be
theorem xi_keep (nw : Nat → Int32) (post : SX → Prop) (h : post (fw + 1, kn, op, cs, ne, mf_cp 18 (fun _ => 1) be, inp, mf_cp 18 nw la, nw)) : wpX_keepInstant post (fw, kn, op, cs, ne, be, inp, la, nw) :=
  ⟨19, xi_k2 fw kn op cs ne be inp la nw post h 18 0 rfl⟩
theorem xi_r7 (nw : Nat → Int32) (post : SX → Prop) (h : post (fw, kn, op, cs, ne, mf_cp 18 (fun _ => 0) be, inp, mf_cp 18 (fun _ => 0) la, nw)) : ∀ d j, j + d = 18 → wX_reset_7 post fw (d + 1) (nI j) kn op cs ne (mf_cp j (fun _ => 0) be) inp (mf_cp j (fun _ => 0) la) nw := by
  intro d
  induction d with
  | zero =>
    intro j hj
    obtain rfl : j = 18 := by omega
    exact br_t mh_18 h
  | succ d ih =>
    intro j hj
    have hj18 : j < 18 := by omega
    have I := ih (j + 1) (by omega)
    refine br_f (mh_ge hj18) ⟨mh_in32 hj18, nm_r (e' := mf_cp (j + 1) (fun _ => 0) la) ?_ ⟨mh_in hj18, nm_r (e' := mf_cp (j + 1) (fun _ => 0) be) ?_ (nm_r (nI_1 j) I)⟩⟩
    · rw [mh_cl hj18]
      exact mf_s j (fun _ => 0) la
    · rw [mh_cl hj18, mh_b0]
      exact mf_s j (fun _ => 0) be
theorem xi_reset (nw : Nat → Int32) (post : SX → Prop) (h : post (0, kn, op, cs, ne, mf_cp 18 (fun _ => 0) be, inp, mf_cp 18 (fun _ => 0) la, nw)) : wpX_reset post (fw, kn, op, cs, ne, be, inp, la, nw) :=
  ⟨19, xi_r7 0 kn op cs ne be inp la nw post h 18 0 rfl⟩
theorem xi_i69 (nw : Nat → Int32) (post : SX → Prop) (h : post (fw, mf_cp 18 (fun _ => 1) kn, op, cs, ne, be, inp, la, nw)) : ∀ d j, j + d = 18 → wX_init_69 post fw (d + 1) (nI j) (mf_cp j (fun _ => 1) kn) op cs ne be inp la nw := by
  intro d
  induction d with
  | zero =>
    intro j hj
    obtain rfl : j = 18 := by omega
    exact br_t mh_18 h
  | succ d ih =>
    intro j hj
    have hj18 : j < 18 := by omega
    have I := ih (j + 1) (by omega)
    refine br_f (mh_ge hj18) ⟨mh_in hj18, nm_r (e' := mf_cp (j + 1) (fun _ => 1) kn) ?_ (nm_r (nI_1 j) I)⟩
    rw [mh_cl hj18]
    exact mf_s j (fun _ => 1) kn
end
theorem xi_init (post : SX → Prop) (h : post (0, mf_cp 18 (fun _ => 1) (fun _ => 0), (fun _ => 0), (fun _ => 0), (fun _ => 0), (fun _ => 0), (fun _ => 0), (fun _ => 0), (fun _ => 0))) : wpX_init post :=
  ⟨19, xi_i69 0 (fun _ => 0) (fun _ => 0) (fun _ => 0) (fun _ => 0) (fun _ => 0) (fun _ => 0) (fun _ => 0) (fun _ => 0) post h 18 0 rfl⟩
/-! ===== a flow, or none ===== -/
theorem fl_c (x : Int32) : (∃ f : Nat, f < 18 ∧ x = nI f) ∨ (x < 0 ∨ (¬ x < 0 ∧ (18 : Int32) ≤ x ∧ ¬ x ≤ 17)) := by
  by_cases h0 : x < 0
  · exact Or.inr (Or.inl h0)
  · obtain ⟨j, hj, rfl⟩ := nI_of h0
    rcases Nat.lt_or_ge j 18 with z | z
    · exact Or.inl ⟨j, z, rfl⟩
    · refine Or.inr (Or.inr ⟨h0, ?_, ?_⟩)
      · exact (nI_leI (a := 18) (by decide) hj).mpr z
      · intro y
        have := (nI_leI (b := 17) hj (by decide)).mp y
        omega
def fl_b (x : Int32) : Prop := x < 0 ∨ (¬ x < 0 ∧ (18 : Int32) ≤ x ∧ ¬ x ≤ 17)
theorem fl_x1 {post : Int32 → Prop} {f : Nat} (hf : f < 18) (h : post 1) : wpX_isFlow post (nI f) :=
  br_f (nI_pos (by omega)) (br_f (mh_ge hf) h)
theorem fl_x0 {post : Int32 → Prop} {x : Int32} (hx : fl_b x) (h : post 0) : wpX_isFlow post x := by
  rcases hx with z | ⟨z, y, _⟩
  · exact br_t z h
  · exact br_f z (br_t y h)
theorem fl_y0 {post : Int32 → Prop} {v : SY} {f : Nat} (hf : f < 18) (h : post 0) : wpY_bad post v (nI f) := by
  obtain ⟨a, b, c, d, e, g, i, j, k, l⟩ := v
  exact br_f (nI_pos (by omega)) (br_t (nI_le (b := 17) (by omega) (by decide)) h)
theorem fl_y1 {post : Int32 → Prop} {v : SY} {x : Int32} (hx : fl_b x) (h : post 1) : wpY_bad post v x := by
  obtain ⟨a, b, c, d, e, g, i, j, k, l⟩ := v
  rcases hx with z | ⟨z, _, y⟩
  · exact br_t z h
  · exact br_f z (br_f y h)
