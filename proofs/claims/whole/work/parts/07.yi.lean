/-! ===== the reference's instant ===== -/
section
variable (fw : Int32) (kn op cs fi inp la nw ha nq : Nat → Int32)
theorem yi_worth (post : Int32 → Prop) (f : Nat) (hf : f < 18) (hk : mk_9 (kn f)) (ho : mv_ok (kn f) (op f)) (bg : Int32) (hb : bg = 0 ↔ ¬ fi f = 0) (h : post (mv_val (kn f) (op f) (cs f) bg inp la nw f)) : wpY_worth post (fw, kn, op, cs, fi, inp, la, nw, ha, nq) (nI f) := by
  have hi := mh_in hf
  have ec := mh_cl hf
  unfold wpY_worth
  dsimp only
  rw [ec]
  refine ⟨hi, nm_e ?_⟩
  refine yw_operand fw kn op cs fi inp la nw ha nq _ f hf 0 (mo_a (op f)) (by rw [mo_shr0]; rfl) (mo_31 _) ?_
  refine yw_operand fw kn op cs fi inp la nw ha nq _ f hf 5 (mo_b (op f)) rfl (mo_31 _) ?_
  refine yw_operand fw kn op cs fi inp la nw ha nq _ f hf 10 (mo_s (op f)) rfl (mo_31 _) ?_
  revert h ho
  unfold mv_val mv_ok
  generalize kn f = k at hk
  rcases hk with rfl | rfl | rfl | rfl | rfl | rfl | rfl | rfl | rfl <;> intro ho h
  · rw [if_pos (by decide)] at h
    exact br_t rfl ⟨hi, mo_in3 _, h⟩
  · rw [if_neg (by decide), if_pos (by decide)] at h
    exact br_f (by decide) (br_t rfl ⟨hi, h⟩)
  · rw [if_neg (by decide), if_neg (by decide), if_pos (by decide)] at h
    rw [if_pos (ho.1 (by decide)), if_pos (ho.2.1 (by decide))]
    exact br_f (by decide) (br_f (by decide) (br_t rfl h))
  · rw [if_neg (by decide), if_neg (by decide), if_neg (by decide), if_pos (by decide)] at h
    rw [if_pos (ho.1 (by decide)), if_pos (ho.2.1 (by decide))]
    exact br_f (by decide) (br_f (by decide) (br_f (by decide) (br_t rfl h)))
  · rw [if_neg (by decide), if_neg (by decide), if_neg (by decide), if_neg (by decide), if_pos (by decide)] at h
    rw [if_pos (ho.1 (by decide)), if_pos (ho.2.1 (by decide))]
    exact br_f (by decide) (br_f (by decide) (br_f (by decide) (br_f (by decide) (br_t rfl h))))
  · rw [if_neg (by decide), if_neg (by decide), if_neg (by decide), if_neg (by decide), if_neg (by decide), if_pos (by decide)] at h
    rw [if_pos (ho.1 (by decide)), if_pos (ho.2.1 (by decide))]
    refine br_f (by decide) (br_f (by decide) (br_f (by decide) (br_f (by decide) (br_f (by decide) (br_t rfl (br_c (fun c => ?_) (fun c => ?_)))))))
    · rw [if_neg (Int32.not_lt.mpr c)] at h
      exact h
    · rw [if_pos (Int32.not_le.mp c)] at h
      exact h
  · rw [if_neg (by decide), if_neg (by decide), if_neg (by decide), if_neg (by decide), if_neg (by decide), if_neg (by decide), if_pos (by decide)] at h
    rw [if_pos (ho.1 (by decide)), if_pos (ho.2.1 (by decide)), if_pos (ho.2.2 (by decide))]
    refine br_f (by decide) (br_f (by decide) (br_f (by decide) (br_f (by decide) (br_f (by decide) (br_f (by decide) (br_t rfl (br_c (fun c => ?_) (fun c => ?_))))))))
    · rw [if_pos c] at h
      exact h
    · rw [if_neg c] at h
      exact h
  · rw [if_neg (by decide), if_neg (by decide), if_neg (by decide), if_neg (by decide), if_neg (by decide), if_neg (by decide), if_neg (by decide), if_pos (by decide)] at h
    refine br_f (by decide) (br_f (by decide) (br_f (by decide) (br_f (by decide) (br_f (by decide) (br_f (by decide) (br_f (by decide) (br_t rfl ⟨hi, br_c (fun c => ⟨hi, ?_, ?_⟩) (fun c => ⟨hi, ?_⟩)⟩)))))))
    · obtain ⟨j, hj, e⟩ := mo_31 (op f)
      have hl := ho.1 (by decide)
      unfold mo_a at hl
      rw [e, nI_clamp (by omega)] at hl
      rw [e]
      exact mh_in hl
    · rw [if_neg (fun z => hb.mp z c)] at h
      exact h
    · rw [if_pos (hb.mpr c)] at h
      exact h
  · rw [if_neg (by decide), if_neg (by decide), if_neg (by decide), if_neg (by decide), if_neg (by decide), if_neg (by decide), if_neg (by decide), if_neg (by decide)] at h
    rw [if_pos (ho.1 (by decide)), if_pos (ho.2.2 (by decide))]
    refine br_f (by decide) (br_f (by decide) (br_f (by decide) (br_f (by decide) (br_f (by decide) (br_f (by decide) (br_f (by decide) (br_f (by decide) (br_c (fun c => ⟨hi, br_c (fun c2 => ⟨hi, ?_⟩) (fun c2 => ⟨hi, ?_⟩)⟩) (fun c => ?_)))))))))
    · rw [if_pos c, if_neg (fun z => hb.mp z c2)] at h
      exact h
    · rw [if_pos c, if_pos (hb.mpr c2)] at h
      exact h
    · rw [if_neg c] at h
      exact h
end
theorem yi_hs (d : Int32) (ha : Nat → Int32) {j : Nat} (hj : j < 18) : upd (mf_cp 18 (yw_h d) ha) j 1 = mf_cp 18 (yw_h (d ||| (1 : Int32) <<< (nI j &&& 31))) ha := by
  funext g
  show (if g = j then 1 else mf_cp 18 (yw_h d) ha g) = _
  by_cases z : g < 18
  · rw [mf_lt _ _ z, mf_lt _ _ z]
    unfold yw_h
    rw [b_or, mt_sh j (by omega) (by omega)]
    by_cases e : g = j
    · rw [if_pos e, decide_eq_true e, Bool.or_true, if_pos rfl]
    · rw [if_neg e, decide_eq_false e, Bool.or_false]
  · rw [mf_ge _ _ z, mf_ge _ _ z, if_neg (by omega)]
theorem yi_h0 (ha : Nat → Int32) : mf_cp 18 (fun _ => 0) ha = mf_cp 18 (yw_h 0) ha := by
  funext g
  by_cases z : g < 18
  · rw [mf_lt _ _ z, mf_lt _ _ z]
    unfold yw_h
    rw [b_0]
    rfl
  · rw [mf_ge _ _ z, mf_ge _ _ z]
section
variable (fw : Int32) (kn op cs ne be fi inp la ha nq : Nat → Int32)
theorem yi_31 (hA : ∀ j, j < 18 → mk_9 (kn j) ∧ mv_ok (kn j) (op j) ∧ ne j = mv_dr (kn j) (op j)) (hB : ∀ j, j < 18 → (be j = 0 ↔ ¬ fi j = 0)) (post : SY → Prop) (J : Int32 → (Nat → Int32) → (Nat → Int32) → (Nat → Int32) → (Nat → Int32) → (Nat → Int32) → (Nat → Int32) → (Nat → Int32) → (Nat → Int32) → (Nat → Int32) → Prop) (x1 : Int32) (p : Int32 × (Nat → Int32)) (hJ : J (x1 + 1) kn op cs fi inp la (mi_pass ne (xi_v kn op cs be inp la) 18 p).2 (mf_cp 18 (yw_h (mi_pass ne (xi_v kn op cs be inp la) 18 p).1) ha) nq) : ∀ d j, j + d = 18 → wY_instant_31 post J x1 fw (d + 1) (nI j) kn op cs fi inp la (mi_pass ne (xi_v kn op cs be inp la) j p).2 (mf_cp 18 (yw_h (mi_pass ne (xi_v kn op cs be inp la) j p).1) ha) nq := by
  intro d
  induction d with
  | zero =>
    intro j hj
    obtain rfl : j = 18 := by omega
    exact br_t mh_18 (nm_e hJ)
  | succ d ih =>
    intro j hj
    have hj18 : j < 18 := by omega
    have I := ih (j + 1) (by omega)
    have eR : mi_pass ne (xi_v kn op cs be inp la) (j + 1) p = mi_row ne (xi_v kn op cs be inp la) (mi_pass ne (xi_v kn op cs be inp la) j p) j := rfl
    revert I
    rw [eR]
    generalize mi_pass ne (xi_v kn op cs be inp la) j p = q
    intro I
    obtain ⟨k9, ko, ke⟩ := hA j hj18
    refine br_f (mh_ge hj18) ⟨mh_in hj18, br_c (fun c => ?_) (fun c => ?_)⟩
    · rw [mh_cl hj18, mf_lt _ _ hj18] at c
      have b : bt q.1 j = false := by
        cases eb : bt q.1 j
        · rfl
        · unfold yw_h at c
          rw [eb] at c
          exact absurd c (by decide)
      refine yw_ready fw kn op cs fi inp la q.2 _ nq _ j hj18 k9 ko q.1 (fun g hg => mf_lt _ _ hg) (fun r => br_f (by decide) ?_) (fun r => br_t rfl (nm_r (nI_1 j) ?_))
      · rw [← ke] at r
        refine yi_worth fw kn op cs fi inp la q.2 _ nq _ j hj18 k9 ko (be j) (hB j hj18) ⟨mh_in hj18, nm_e ⟨mh_in hj18, nm_e (nm_r (nI_1 j) ?_)⟩⟩
        rw [mi_t ne _ r b] at I
        rw [mh_cl hj18, mh_b1, yi_hs _ _ hj18]
        exact I
      · rw [← ke] at r
        rw [mi_f1 ne _ r] at I
        exact I
    · rw [mh_cl hj18, mf_lt _ _ hj18] at c
      have b : bt q.1 j = true := by
        cases eb : bt q.1 j
        · unfold yw_h at c
          rw [eb] at c
          exact absurd rfl c
        · rfl
      rw [mi_f2 ne _ b] at I
      exact nm_r (nI_1 j) I
theorem yi_23 (hA : ∀ j, j < 18 → mk_9 (kn j) ∧ mv_ok (kn j) (op j) ∧ ne j = mv_dr (kn j) (op j)) (hB : ∀ j, j < 18 → (be j = 0 ↔ ¬ fi j = 0)) (post : SY → Prop) (p : Int32 × (Nat → Int32)) (h : post (fw, kn, op, cs, fi, inp, la, (mi_all ne (xi_v kn op cs be inp la) 18 p).2, mf_cp 18 (yw_h (mi_all ne (xi_v kn op cs be inp la) 18 p).1) ha, nq)) : ∀ d r, r + d = 18 → wY_instant_23 post fw (d + 1) (nI r) kn op cs fi inp la (mi_all ne (xi_v kn op cs be inp la) r p).2 (mf_cp 18 (yw_h (mi_all ne (xi_v kn op cs be inp la) r p).1) ha) nq := by
  intro d
  induction d with
  | zero =>
    intro j hj
    obtain rfl : j = 18 := by omega
    exact br_t mh_18 h
  | succ d ih =>
    intro r hr
    refine br_f (mh_ge (by omega)) ⟨19, yi_31 fw kn op cs ne be fi inp la ha nq hA hB post _ (nI r) (mi_all ne (xi_v kn op cs be inp la) r p) ?_ 18 0 rfl⟩
    rw [nI_1]
    exact ih (r + 1) (by omega)
theorem yi_2 (nw : Nat → Int32) (hA : ∀ j, j < 18 → mk_9 (kn j) ∧ mv_ok (kn j) (op j) ∧ ne j = mv_dr (kn j) (op j)) (hB : ∀ j, j < 18 → (be j = 0 ↔ ¬ fi j = 0)) (post : SY → Prop) (h : post (fw, kn, op, cs, fi, inp, la, (xi_p kn op cs ne be inp la nw).2, mf_cp 18 (yw_h (xi_p kn op cs ne be inp la nw).1) ha, nq)) : ∀ d j, j + d = 18 → wY_instant_2 post fw (d + 1) (nI j) kn op cs fi inp la nw (mf_cp j (fun _ => 0) ha) nq := by
  intro d
  induction d with
  | zero =>
    intro j hj
    obtain rfl : j = 18 := by omega
    refine br_t mh_18 ⟨19, ?_⟩
    rw [yi_h0]
    exact yi_23 fw kn op cs ne be fi inp la ha nq hA hB post (0, nw) h 18 0 rfl
  | succ d ih =>
    intro j hj
    have hj18 : j < 18 := by omega
    refine br_f (mh_ge hj18) ⟨mh_in hj18, nm_r (e' := mf_cp (j + 1) (fun _ => 0) ha) ?_ (nm_r (nI_1 j) (ih (j + 1) (by omega)))⟩
    rw [mh_cl hj18, mh_b0]
    exact mf_s j (fun _ => 0) ha
theorem yi_inst (nw : Nat → Int32) (hA : ∀ j, j < 18 → mk_9 (kn j) ∧ mv_ok (kn j) (op j) ∧ ne j = mv_dr (kn j) (op j)) (hB : ∀ j, j < 18 → (be j = 0 ↔ ¬ fi j = 0)) (post : SY → Prop) (h : post (fw, kn, op, cs, fi, inp, la, (xi_p kn op cs ne be inp la nw).2, mf_cp 18 (yw_h (xi_p kn op cs ne be inp la nw).1) ha, nq)) : wpY_instant post (fw, kn, op, cs, fi, inp, la, nw, ha, nq) :=
  ⟨19, yi_2 fw kn op cs ne be fi inp la ha nq nw hA hB post h 18 0 rfl⟩
end
section
variable (fw : Int32) (kn op cs fi inp la nw ha nq : Nat → Int32)
theorem yi_s19 (post : Int32 → SY → Prop) (J : Int32 → Int32 → (Nat → Int32) → (Nat → Int32) → (Nat → Int32) → (Nat → Int32) → (Nat → Int32) → (Nat → Int32) → (Nat → Int32) → (Nat → Int32) → (Nat → Int32) → Prop) (x1 x2 : Int32) (h : J (x2 + 1) (fw + 1) kn op cs (mf_cp 18 (fun _ => 0) fi) inp (mf_cp 18 nw la) nw ha nq) : ∀ d j, j + d = 18 → wY_step_19 post J x1 x2 fw (d + 1) (nI j) kn op cs (mf_cp j (fun _ => 0) fi) inp (mf_cp j nw la) nw ha nq := by
  intro d
  induction d with
  | zero =>
    intro j hj
    obtain rfl : j = 18 := by omega
    exact br_t mh_18 (nm_e (nm_e h))
  | succ d ih =>
    intro j hj
    have hj18 : j < 18 := by omega
    have I := ih (j + 1) (by omega)
    refine br_f (mh_ge hj18) ⟨mh_in hj18, mh_in hj18, nm_r (e' := mf_cp (j + 1) nw la) ?_ ⟨mh_in hj18, nm_r (e' := mf_cp (j + 1) (fun _ => 0) fi) ?_ (nm_r (nI_1 j) I)⟩⟩
    · rw [mh_cl hj18]
      exact mf_s j nw la
    · rw [mh_cl hj18, mh_b0]
      exact mf_s j (fun _ => 0) fi
theorem yi_r7 (post : SY → Prop) (h : post (fw, kn, op, cs, mf_cp 18 (fun _ => 1) fi, inp, mf_cp 18 (fun _ => 0) la, nw, ha, nq)) : ∀ d j, j + d = 18 → wY_reset_7 post fw (d + 1) (nI j) kn op cs (mf_cp j (fun _ => 1) fi) inp (mf_cp j (fun _ => 0) la) nw ha nq := by
  intro d
  induction d with
  | zero =>
    intro j hj
    obtain rfl : j = 18 := by omega
    exact br_t mh_18 h
  | succ d ih =>
    intro j hj
    have hj18 : j < 18 := by omega
    have I := ih (j + 1) (by omega)
    refine br_f (mh_ge hj18) ⟨mh_in hj18, nm_r (e' := mf_cp (j + 1) (fun _ => 0) la) ?_ ⟨mh_in hj18, nm_r (e' := mf_cp (j + 1) (fun _ => 1) fi) ?_ (nm_r (nI_1 j) I)⟩⟩
    · rw [mh_cl hj18]
      exact mf_s j (fun _ => 0) la
    · rw [mh_cl hj18, mh_b1]
      exact mf_s j (fun _ => 1) fi
theorem yi_reset (post : SY → Prop) (h : post (0, kn, op, cs, mf_cp 18 (fun _ => 1) fi, inp, mf_cp 18 (fun _ => 0) la, nw, ha, nq)) : wpY_reset post (fw, kn, op, cs, fi, inp, la, nw, ha, nq) :=
  ⟨19, yi_r7 0 kn op cs fi inp la nw ha nq post h 18 0 rfl⟩
theorem yi_i77 (post : SY → Prop) (h : post (fw, mf_cp 18 (fun _ => 1) kn, op, cs, mf_cp 18 (fun _ => 1) fi, inp, la, nw, ha, nq)) : ∀ d j, j + d = 18 → wY_init_77 post fw (d + 1) (nI j) (mf_cp j (fun _ => 1) kn) op cs (mf_cp j (fun _ => 1) fi) inp la nw ha nq := by
  intro d
  induction d with
  | zero =>
    intro j hj
    obtain rfl : j = 18 := by omega
    exact br_t mh_18 h
  | succ d ih =>
    intro j hj
    have hj18 : j < 18 := by omega
    have I := ih (j + 1) (by omega)
    refine br_f (mh_ge hj18) ⟨mh_in hj18, nm_r (e' := mf_cp (j + 1) (fun _ => 1) kn) ?_ ⟨mh_in hj18, nm_r (e' := mf_cp (j + 1) (fun _ => 1) fi) ?_ (nm_r (nI_1 j) I)⟩⟩
    · rw [mh_cl hj18]
      exact mf_s j (fun _ => 1) kn
    · rw [mh_cl hj18, mh_b1]
      exact mf_s j (fun _ => 1) fi
end
theorem yi_init (post : SY → Prop) (h : post (0, mf_cp 18 (fun _ => 1) (fun _ => 0), (fun _ => 0), (fun _ => 0), mf_cp 18 (fun _ => 1) (fun _ => 0), (fun _ => 0), (fun _ => 0), (fun _ => 0), (fun _ => 0), (fun _ => 0))) : wpY_init post :=
  ⟨19, yi_i77 0 (fun _ => 0) (fun _ => 0) (fun _ => 0) (fun _ => 0) (fun _ => 0) (fun _ => 0) (fun _ => 0) (fun _ => 0) (fun _ => 0) post h 18 0 rfl⟩
