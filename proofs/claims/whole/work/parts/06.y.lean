/-! ===== the reference's private methods ===== -/
section
variable (fw : Int32) (kn op cs fi inp la nw ha nq : Nat → Int32)
theorem yw_direct (post : Int32 → Prop) (k o : Int32) (hk : mk_9 k) (h : post (mv_dr k o)) : wpY_direct post (fw, kn, op, cs, fi, inp, la, nw, ha, nq) k o := by
  unfold mv_dr at h
  unfold wpY_direct wpY_namesB
  dsimp only
  rcases hk with rfl | rfl | rfl | rfl | rfl | rfl | rfl | rfl | rfl
  · rw [if_neg (by decide), if_neg (by decide), if_neg (by decide)] at h
    exact br_t (by decide) h
  · rw [if_neg (by decide), if_neg (by decide), if_neg (by decide)] at h
    exact br_t (by decide) h
  · rw [if_pos (by decide)] at h
    exact br_f (by decide) (br_f (by decide) (nm_e (br_f (by decide) (br_f (by decide) (br_f (by decide) (nm_e (br_f (by decide) (br_f (by decide) (br_t rfl h)))))))))
  · rw [if_pos (by decide)] at h
    exact br_f (by decide) (br_f (by decide) (nm_e (br_f (by decide) (br_f (by decide) (br_f (by decide) (nm_e (br_f (by decide) (br_f (by decide) (br_t rfl h)))))))))
  · rw [if_pos (by decide)] at h
    exact br_f (by decide) (br_f (by decide) (nm_e (br_f (by decide) (br_f (by decide) (br_f (by decide) (nm_e (br_f (by decide) (br_f (by decide) (br_t rfl h)))))))))
  · rw [if_pos (by decide)] at h
    exact br_f (by decide) (br_f (by decide) (nm_e (br_f (by decide) (br_f (by decide) (br_f (by decide) (nm_e (br_f (by decide) (br_f (by decide) (br_t rfl h)))))))))
  · rw [if_neg (by decide), if_pos (by decide)] at h
    exact br_f (by decide) (br_f (by decide) (nm_e (br_f (by decide) (br_f (by decide) (br_f (by decide) (nm_e (br_t rfl (br_f (by decide) (nm_e h)))))))))
  · rw [if_neg (by decide), if_neg (by decide), if_neg (by decide)] at h
    exact br_f (by decide) (br_t rfl h)
  · rw [if_neg (by decide), if_neg (by decide), if_pos (by decide)] at h
    exact br_f (by decide) (br_f (by decide) (nm_e (br_f (by decide) (br_t (by decide) (br_t rfl (br_f (by decide) (br_t rfl (br_f (by decide) (nm_e h)))))))))
/-! the needs of all, by rounds -/
theorem yw_46 (post : SY → Prop) (J : Int32 → (Nat → Int32) → (Nat → Int32) → (Nat → Int32) → (Nat → Int32) → (Nat → Int32) → (Nat → Int32) → (Nat → Int32) → (Nat → Int32) → (Nat → Int32) → Prop) (k : Nat) (hk : k < 18) (m : Nat → Int32) (hJ : J (nI (k + 1)) kn op cs fi inp la nw ha (wy_col k 18 m)) : ∀ d j, j + d = 18 → wY_allNeeds_46 post J (nI k) fw (d + 1) (nI j) kn op cs fi inp la nw ha (wy_col k j m) := by
  intro d
  induction d with
  | zero =>
    intro j hj
    obtain rfl : j = 18 := by omega
    exact br_t mh_18 (nm_r (nI_1 k) hJ)
  | succ d ih =>
    intro j hj
    have hj18 : j < 18 := by omega
    have I := ih (j + 1) (by omega)
    have eR : wy_col k (j + 1) m = if bt (wy_col k j m j) k = true then upd (wy_col k j m) j (wy_col k j m j ||| wy_col k j m k) else wy_col k j m := rfl
    revert I
    rw [eR]
    generalize wy_col k j m = q
    intro I
    refine br_f (mh_ge hj18) ⟨mh_in hj18, br_c (fun c => ?_) (fun c => ?_)⟩
    · rw [mh_cl hj18] at c
      rw [if_pos ((mt_y _ k (by omega)).mp c)] at I
      refine ⟨mh_in hj18, mh_in hk, mh_in hj18, nm_r (e' := upd q j (q j ||| q k)) ?_ (nm_r (nI_1 j) I)⟩
      rw [mh_cl hj18, mh_cl hk]
    · rw [mh_cl hj18] at c
      rw [if_neg (fun z => c ((mt_y _ k (by omega)).mpr z))] at I
      exact nm_r (nI_1 j) I
theorem yw_38 (post : SY → Prop) (m : Nat → Int32) (h : post (fw, kn, op, cs, fi, inp, la, nw, ha, wy_all 18 m)) : ∀ d r, r + d = 18 → wY_allNeeds_38 post fw (d + 1) (nI r) kn op cs fi inp la nw ha (wy_all r m) := by
  intro d
  induction d with
  | zero =>
    intro j hj
    obtain rfl : j = 18 := by omega
    exact br_t mh_18 h
  | succ d ih =>
    intro r hr
    exact br_f (mh_ge (by omega)) ⟨19, yw_46 fw kn op cs fi inp la nw ha post _ r (by omega) (wy_all r m) (ih (r + 1) (by omega)) 18 0 rfl⟩
/-- the table of direct needs, as the reference writes it -/
def yw_t : Nat → Int32 := mf_cp 18 (fun i => mv_dr (kn i) (op i)) nq
theorem yw_2 (post : SY → Prop) (hk : ∀ j, j < 18 → mk_9 (kn j)) (h : post (fw, kn, op, cs, fi, inp, la, nw, ha, wy_all 18 (yw_t kn op nq))) : ∀ d j, j + d = 18 → wY_allNeeds_2 post fw (d + 1) (nI j) kn op cs fi inp la nw ha (mf_cp j (fun i => mv_dr (kn i) (op i)) nq) := by
  intro d
  induction d with
  | zero =>
    intro j hj
    obtain rfl : j = 18 := by omega
    exact br_t mh_18 ⟨19, yw_38 fw kn op cs fi inp la nw ha post (yw_t kn op nq) h 18 0 rfl⟩
  | succ d ih =>
    intro j hj
    have hj18 : j < 18 := by omega
    have I := ih (j + 1) (by omega)
    refine br_f (mh_ge hj18) ⟨mh_in hj18, mh_in hj18, ?_⟩
    rw [mh_cl hj18]
    refine yw_direct fw kn op cs fi inp la nw ha _ _ (kn j) (op j) (hk j hj18) ⟨mh_in hj18, nm_r (e' := mf_cp (j + 1) (fun i => mv_dr (kn i) (op i)) nq) ?_ (nm_r (nI_1 j) I)⟩
    exact mf_s j (fun i => mv_dr (kn i) (op i)) nq
theorem yw_all (post : SY → Prop) (hk : ∀ j, j < 18 → mk_9 (kn j)) (h : post (fw, kn, op, cs, fi, inp, la, nw, ha, wy_all 18 (yw_t kn op nq))) : wpY_allNeeds post (fw, kn, op, cs, fi, inp, la, nw, ha, nq) :=
  ⟨19, yw_2 fw kn op cs fi inp la nw ha nq post hk h 18 0 rfl⟩
theorem yw_c6 (post : Int32 → SY → Prop) (h1 : (∃ a, a < 18 ∧ bt (nq a) a = true) → post 1 (fw, kn, op, cs, fi, inp, la, nw, ha, nq)) (h0 : (∀ a, a < 18 → bt (nq a) a = false) → post 0 (fw, kn, op, cs, fi, inp, la, nw, ha, nq)) : ∀ d j, j + d = 18 → (∀ a, a < j → bt (nq a) a = false) → wY_circle_6 post fw kn op cs fi inp la nw ha nq (d + 1) (nI j) := by
  intro d
  induction d with
  | zero =>
    intro j hj hb
    obtain rfl : j = 18 := by omega
    exact br_t mh_18 (h0 hb)
  | succ d ih =>
    intro j hj hb
    have hj18 : j < 18 := by omega
    refine br_f (mh_ge hj18) ⟨mh_in hj18, br_c (fun c => ?_) (fun c => nm_r (nI_1 j) (ih (j + 1) (by omega) ?_))⟩
    · rw [mh_cl hj18] at c
      exact h1 ⟨j, hj18, (mt_y _ j (by omega)).mp c⟩
    · rw [mh_cl hj18] at c
      intro a haj
      by_cases e : a = j
      · subst e
        cases eb : bt (nq a) a
        · rfl
        · exact absurd ((mt_y _ a (by omega)).mpr eb) c
      · exact hb a (by omega)
theorem yw_circle (post : Int32 → SY → Prop) (hk : ∀ j, j < 18 → mk_9 (kn j)) (h1 : (∃ a, a < 18 ∧ bt (wy_all 18 (yw_t kn op nq) a) a = true) → post 1 (fw, kn, op, cs, fi, inp, la, nw, ha, wy_all 18 (yw_t kn op nq))) (h0 : (∀ a, a < 18 → bt (wy_all 18 (yw_t kn op nq) a) a = false) → post 0 (fw, kn, op, cs, fi, inp, la, nw, ha, wy_all 18 (yw_t kn op nq))) : wpY_circle post (fw, kn, op, cs, fi, inp, la, nw, ha, nq) := by
  unfold wpY_circle
  dsimp only
  exact yw_all fw kn op cs fi inp la nw ha nq _ hk ⟨19, yw_c6 fw kn op cs fi inp la nw ha _ post h1 h0 18 0 rfl (fun a z => absurd z (by omega))⟩
theorem yw_191 (post : Int32 → SY → Prop) (f : Nat) (hf : f < 18) (h : post (ms_n (nq f) 18) (fw, kn, op, cs, fi, inp, la, nw, ha, nq)) : ∀ d j, j + d = 18 → wY_define_191 post (nI f) fw kn op cs fi inp la nw ha nq (d + 1) (ms_n (nq f) j) (nI j) := by
  intro d
  induction d with
  | zero =>
    intro j hj
    obtain rfl : j = 18 := by omega
    exact br_t mh_18 h
  | succ d ih =>
    intro j hj
    refine br_f (mh_ge (by omega)) ⟨mh_in hf, nm_r (e' := ms_n (nq f) (j + 1)) ?_ (nm_r (nI_1 j) (ih (j + 1) (by omega)))⟩
    rw [mh_cl hf, mt_yv (nq f) j (by omega)]
    rfl
/-! the instant -/
def yw_h (d : Int32) : Nat → Int32 := fun g => if bt d g then 1 else 0
theorem yw_r19 (post : Int32 → Prop) (x D : Int32) (hx : ∀ i, bt x i = true → i < 18) (hD : ∀ g, g < 18 → ha g = yw_h D g) (h1 : (x &&& (D ^^^ (-1))) = 0 → post 1) (h0 : ¬ (x &&& (D ^^^ (-1))) = 0 → post 0) : ∀ d j, j + d = 18 → (∀ g, g < j → bt x g = true → bt D g = true) → wY_ready_19 post x fw kn op cs fi inp la nw ha nq (d + 1) (nI j) := by
  intro d
  induction d with
  | zero =>
    intro j hj hb
    obtain rfl : j = 18 := by omega
    exact br_t mh_18 (h1 ((mt_sub x D).mpr (fun i _ z => hb i (hx i z) z)))
  | succ d ih =>
    intro j hj hb
    have hj18 : j < 18 := by omega
    refine br_f (mh_ge hj18) (br_c (fun c => ⟨mh_in hj18, br_c (fun e => ?_) (fun e => nm_r (nI_1 j) (ih (j + 1) (by omega) ?_))⟩) (fun c => nm_r (nI_1 j) (ih (j + 1) (by omega) ?_)))
    · rw [mh_cl hj18, hD j hj18] at e
      have c' := (mt_y x j (by omega)).mp c
      refine h0 (fun z => ?_)
      have := (mt_sub x D).mp z j (by omega) c'
      unfold yw_h at e
      rw [this] at e
      exact absurd e (by decide)
    · rw [mh_cl hj18, hD j hj18] at e
      intro g hg hxg
      by_cases eg : g = j
      · subst eg
        cases eb : bt D g
        · unfold yw_h at e
          rw [eb] at e
          exact absurd rfl e
        · rfl
      · exact hb g (by omega) hxg
    · intro g hg hxg
      by_cases eg : g = j
      · subst eg
        exact absurd ((mt_y x g (by omega)).mpr hxg) c
      · exact hb g (by omega) hxg
theorem yw_ready (post : Int32 → Prop) (f : Nat) (hf : f < 18) (hk : mk_9 (kn f)) (ho : mv_ok (kn f) (op f)) (D : Int32) (hD : ∀ g, g < 18 → ha g = yw_h D g) (h1 : (mv_dr (kn f) (op f) &&& (D ^^^ (-1))) = 0 → post 1) (h0 : ¬ (mv_dr (kn f) (op f) &&& (D ^^^ (-1))) = 0 → post 0) : wpY_ready post (fw, kn, op, cs, fi, inp, la, nw, ha, nq) (nI f) := by
  unfold wpY_ready
  dsimp only
  rw [mh_cl hf]
  exact ⟨mh_in hf, mh_in hf, yw_direct fw kn op cs fi inp la nw ha nq _ (kn f) (op f) hk ⟨19, yw_r19 fw kn op cs fi inp la nw ha nq post _ D (mv_drIn hk ho) hD h1 h0 18 0 rfl (fun g z => absurd z (by omega))⟩⟩
theorem yw_operand (post : Int32 → Prop) (f : Nat) (hf : f < 18) (sh x : Int32) (hx : (op f >>> (sh &&& 31)) &&& 31 = x) (hx31 : ∃ j : Nat, j < 32 ∧ x = nI j) (h : post (if x.toNatClampNeg < 18 then nw x.toNatClampNeg else 0)) : wpY_operand post (fw, kn, op, cs, fi, inp, la, nw, ha, nq) (nI f) sh := by
  unfold wpY_operand
  dsimp only
  rw [mh_cl hf]
  refine ⟨mh_in hf, nm_r hx ?_⟩
  obtain ⟨j, hj, rfl⟩ := hx31
  rw [nI_clamp (by omega)] at h
  by_cases z : j < 18
  · rw [if_pos z] at h
    refine br_f (mh_ge z) ⟨mh_in z, ?_⟩
    rw [mh_cl z]
    exact h
  · rw [if_neg z] at h
    exact br_t ((nI_leI (a := 18) (by decide) (by omega)).mpr (by omega)) h
end
