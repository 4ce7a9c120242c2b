/-! ===== small facts for both sides ===== -/
theorem mh_ge {j : Nat} (h : j < 18) : ¬ (18 : Int32) ≤ nI j := nI_ge (b := 18) h (by decide)
theorem mh_18 : (18 : Int32) ≤ nI 18 := by decide
theorem mh_in {j : Nat} (h : j < 18) : vp_in (nI j) 18 := vp_in_nI h (by decide)
theorem mh_in32 {j : Nat} (h : j < 18) : vp_in (nI j) 32 := vp_in_nI (by omega) (by decide)
theorem mh_cl {j : Nat} (h : j < 18) : (nI j).toNatClampNeg = j := nI_clamp (by omega)
theorem mh_b0 : vp_nar .boolean 0 = 0 := by decide
theorem mh_b1 : vp_nar .boolean 1 = 1 := by decide
theorem mo_in (x : Int32) : vp_in (x &&& 31) 32 := by
  obtain ⟨j, hj, e⟩ := mo_31 x
  rw [e]
  exact vp_in_nI hj (by decide)
theorem mo_in3 (x : Int32) : vp_in (x &&& 3) 4 := by
  obtain ⟨j, hj, e⟩ := mo_3 x
  rw [e]
  exact vp_in_nI hj (by decide)
/-- the number of a set's flows -/
def ms_n (x : Int32) : Nat → Int32
  | 0 => 0
  | n + 1 => ms_n x n + (if bt x n then 1 else 0)
/-! ===== the component's private methods ===== -/
theorem xw_con {post : Int32 → Prop} {s : Int32} {n : Nat} (hn : n < 18) (h0 : bt s n = false → post 0) (h1 : bt s n = true → post 1) : wpX_contains post s (nI n) := by
  unfold wpX_contains
  refine br_c (fun h => h0 ((mt_x s n (by omega)).mp h)) (fun h => h1 ?_)
  cases e : bt s n
  · exact absurd ((mt_x s n (by omega)).mpr e) h
  · rfl
theorem xw_size4 (post : Int32 → Prop) (s : Int32) (h : post (ms_n s 18)) : ∀ d j, j + d = 18 → wX_sizeOf_4 post s (d + 1) (ms_n s j) (nI j) := by
  intro d
  induction d with
  | zero =>
    intro j hj
    obtain rfl : j = 18 := by omega
    exact br_t mh_18 h
  | succ d ih =>
    intro j hj
    refine br_f (mh_ge (by omega)) (nm_r (e' := ms_n s (j + 1)) ?_ (nm_r (nI_1 j) (ih (j + 1) (by omega))))
    rw [mt_xv s j (by omega)]
    rfl
theorem xw_size (post : Int32 → Prop) (s : Int32) (h : post (ms_n s 18)) : wpX_sizeOf post s := ⟨19, xw_size4 post s h 18 0 rfl⟩
theorem xw_named (post : Int32 → Prop) (k op : Int32) (hk : mk_9 k) (h : post (mv_nm k op)) : wpX_namedOperands post k op := by
  unfold wpX_namedOperands wpX_operandA wpX_operandB wpX_operandS
  refine nm_e (nm_e (nm_e ?_))
  unfold mv_nm mv_dr at h
  rcases hk with rfl | rfl | rfl | rfl | rfl | rfl | rfl | rfl | rfl
  · rw [if_neg (by decide), if_neg (by decide), if_neg (by decide), if_neg (by decide)] at h
    exact br_t (by decide) h
  · rw [if_neg (by decide), if_neg (by decide), if_neg (by decide), if_neg (by decide)] at h
    exact br_t (by decide) h
  · rw [if_neg (by decide), if_pos (by decide)] at h
    exact br_f (by decide) (br_f (by decide) (br_t rfl h))
  · rw [if_neg (by decide), if_pos (by decide)] at h
    exact br_f (by decide) (br_f (by decide) (br_f (by decide) (br_t rfl h)))
  · rw [if_neg (by decide), if_pos (by decide)] at h
    exact br_f (by decide) (br_f (by decide) (br_f (by decide) (br_f (by decide) (br_t rfl h))))
  · rw [if_neg (by decide), if_pos (by decide)] at h
    exact br_f (by decide) (br_f (by decide) (br_f (by decide) (br_f (by decide) (br_f (by decide) (br_t rfl h)))))
  · rw [if_neg (by decide), if_neg (by decide), if_pos (by decide)] at h
    exact br_f (by decide) (br_f (by decide) (br_f (by decide) (br_f (by decide) (br_f (by decide) (br_f (by decide) (br_t rfl h))))))
  · rw [if_pos (by decide)] at h
    exact br_f (by decide) (br_f (by decide) (br_f (by decide) (br_f (by decide) (br_f (by decide) (br_f (by decide) (br_f (by decide) (br_t rfl h)))))))
  · rw [if_neg (by decide), if_neg (by decide), if_neg (by decide), if_pos (by decide)] at h
    exact br_f (by decide) (br_f (by decide) (br_f (by decide) (br_f (by decide) (br_f (by decide) (br_f (by decide) (br_f (by decide) (br_f (by decide) (br_t rfl h))))))))
section
variable (fw : Int32) (kn op cs ne be inp la nw : Nat → Int32)
theorem xw_13 (post : Int32 → Prop) (J4 : Int32 → Int32 → Prop) (x3 s : Int32) (hJ : J4 (mx_pass ne 18 s) (x3 + 1)) : ∀ d j, j + d = 18 → wX_withTheirNeeds_13 post J4 x3 fw kn op cs ne be inp la nw (d + 1) (mx_pass ne j s) (nI j) := by
  intro d
  induction d with
  | zero =>
    intro j hj
    obtain rfl : j = 18 := by omega
    exact br_t mh_18 (nm_e hJ)
  | succ d ih =>
    intro j hj
    have I := ih (j + 1) (by omega)
    refine br_f (mh_ge (by omega)) (xw_con (by omega) (fun c => br_t rfl (nm_r (nI_1 j) ?_)) (fun c => br_f (by decide) ⟨mh_in (by omega), nm_r (e' := mx_pass ne (j + 1) s) ?_ (nm_r (nI_1 j) I)⟩))
    · rw [show mx_pass ne (j + 1) s = mx_pass ne j s from if_neg (by rw [c]; decide)] at I
      exact I
    · rw [mh_cl (by omega)]
      exact (if_pos c).symm
theorem xw_4 (post : Int32 → Prop) (s : Int32) (h : post (mx_cl ne 18 s)) : ∀ d r, r + d = 18 → wX_withTheirNeeds_4 post fw kn op cs ne be inp la nw (d + 1) (mx_cl ne r s) (nI r) := by
  intro d
  induction d with
  | zero =>
    intro j hj
    obtain rfl : j = 18 := by omega
    exact br_t mh_18 h
  | succ d ih =>
    intro r hr
    refine br_f (mh_ge (by omega)) ⟨19, xw_13 fw kn op cs ne be inp la nw post _ (nI r) (mx_cl ne r s) ?_ 18 0 rfl⟩
    rw [nI_1]
    exact ih (r + 1) (by omega)
theorem xw_needs (post : Int32 → Prop) (s : Int32) (h : post (mx_cl ne 18 s)) : wpX_withTheirNeeds post (fw, kn, op, cs, ne, be, inp, la, nw) s :=
  ⟨19, xw_4 fw kn op cs ne be inp la nw post s h 18 0 rfl⟩
theorem xw_val (post : Int32 → Prop) (f : Nat) (hf : f < 18) (hk : mk_9 (kn f)) (h : post (mv_val (kn f) (op f) (cs f) (be f) inp la nw f)) : wpX_valueByDefinition post (fw, kn, op, cs, ne, be, inp, la, nw) (nI f) := by
  have hi := mh_in hf
  have h32 := mh_in32 hf
  have ec := mh_cl hf
  unfold wpX_valueByDefinition wpX_operandA wpX_operandB wpX_operandS
  dsimp only
  rw [ec]
  refine ⟨hi, hi, hi, hi, nm_e ⟨hi, nm_e ?_⟩⟩
  revert h
  unfold mv_val mo_a mo_b mo_s
  generalize kn f = k at hk
  rcases hk with rfl | rfl | rfl | rfl | rfl | rfl | rfl | rfl | rfl <;> intro h
  · rw [if_pos (by decide)] at h
    exact br_f (by decide) (br_f (by decide) (br_t rfl ⟨mo_in3 _, h⟩))
  · rw [if_neg (by decide), if_pos (by decide)] at h
    exact br_f (by decide) (br_f (by decide) (br_f (by decide) (br_t rfl h)))
  · rw [if_neg (by decide), if_neg (by decide), if_pos (by decide)] at h
    exact br_f (by decide) (br_f (by decide) (br_f (by decide) (br_f (by decide) (br_t rfl ⟨mo_in _, mo_in _, h⟩))))
  · rw [if_neg (by decide), if_neg (by decide), if_neg (by decide), if_pos (by decide)] at h
    exact br_f (by decide) (br_f (by decide) (br_f (by decide) (br_f (by decide) (br_f (by decide) (br_t rfl ⟨mo_in _, mo_in _, h⟩)))))
  · rw [if_neg (by decide), if_neg (by decide), if_neg (by decide), if_neg (by decide), if_pos (by decide)] at h
    exact br_f (by decide) (br_f (by decide) (br_f (by decide) (br_f (by decide) (br_f (by decide) (br_f (by decide) (br_t rfl ⟨mo_in _, mo_in _, h⟩))))))
  · rw [if_neg (by decide), if_neg (by decide), if_neg (by decide), if_neg (by decide), if_neg (by decide), if_pos (by decide)] at h
    refine br_f (by decide) (br_f (by decide) (br_f (by decide) (br_f (by decide) (br_f (by decide) (br_f (by decide) (br_f (by decide) (br_t rfl ⟨mo_in _, mo_in _, br_c (fun c => ?_) (fun c => ?_)⟩)))))))
    · rw [if_neg (Int32.not_lt.mpr c)] at h
      exact h
    · rw [if_pos (Int32.not_le.mp c)] at h
      exact h
  · rw [if_neg (by decide), if_neg (by decide), if_neg (by decide), if_neg (by decide), if_neg (by decide), if_neg (by decide), if_pos (by decide)] at h
    refine br_f (by decide) (br_f (by decide) (br_f (by decide) (br_f (by decide) (br_f (by decide) (br_f (by decide) (br_f (by decide) (br_f (by decide) (br_t rfl ⟨mo_in _, br_c (fun c => ⟨mo_in _, ?_⟩) (fun c => ⟨mo_in _, ?_⟩)⟩))))))))
    · rw [if_pos c] at h
      exact h
    · rw [if_neg c] at h
      exact h
  · rw [if_neg (by decide), if_neg (by decide), if_neg (by decide), if_neg (by decide), if_neg (by decide), if_neg (by decide), if_neg (by decide), if_pos (by decide)] at h
    refine br_f (by decide) (br_f (by decide) (br_f (by decide) (br_f (by decide) (br_f (by decide) (br_f (by decide) (br_f (by decide) (br_f (by decide) (br_f (by decide) (br_t rfl ⟨hi, br_c (fun c => ?_) (fun c => ⟨mo_in _, ?_⟩)⟩)))))))))
    · rw [if_pos c] at h
      exact h
    · rw [if_neg c] at h
      exact h
  · rw [if_neg (by decide), if_neg (by decide), if_neg (by decide), if_neg (by decide), if_neg (by decide), if_neg (by decide), if_neg (by decide), if_neg (by decide)] at h
    refine br_f (by decide) (br_f (by decide) (br_f (by decide) (br_f (by decide) (br_f (by decide) (br_f (by decide) (br_f (by decide) (br_f (by decide) (br_f (by decide) (br_f (by decide) (br_t rfl ⟨mo_in _, br_c (fun c => ⟨hi, br_c (fun c2 => ?_) (fun c2 => ⟨h32, ?_⟩)⟩) (fun c => ⟨mo_in _, ?_⟩)⟩))))))))))
    · rw [if_pos c, if_pos c2] at h
      exact h
    · rw [if_pos c, if_neg c2] at h
      exact h
    · rw [if_neg c] at h
      exact h
end
