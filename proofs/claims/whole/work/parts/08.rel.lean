/-! ===== the relation ===== -/
/-- what holds of the tables: kinds and operands good, the component's needs are the direct ones, begun and first are opposite, no circle, nothing seen before the first instant -/
def md_I (w : Nat) (kn op ne be fi la : Nat → Int32) : Prop :=
  (∀ j, j < 18 → mk_9 (kn j) ∧ mv_ok (kn j) (op j) ∧ ne j = mv_dr (kn j) (op j)) ∧ (∀ j, j < 18 → (be j = 0 ↔ ¬ fi j = 0)) ∧ mp_Ac (mx_D ne) ∧ (w = 0 → ∀ j, j < 18 → la j = 0)
def i_Rel (k : Nat) (u : SX) (v : SY) : Prop := ∃ (w : Nat) (kn op cs ne be fi inp la nw ha nq : Nat → Int32), w ≤ 20 * k ∧ u = (nI w, kn, op, cs, ne, be, inp, la, nw) ∧ v = (nI w, kn, op, cs, fi, inp, la, nw, ha, nq) ∧ md_I w kn op ne be fi la
theorem i_up {k : Nat} {u : SX} {v : SY} (h : i_Rel k u v) : i_Rel (k + 5) u v := by
  obtain ⟨w, kn, op, cs, ne, be, fi, inp, la, nw, ha, nq, hw, hu, hv, hI⟩ := h
  exact ⟨w, kn, op, cs, ne, be, fi, inp, la, nw, ha, nq, by omega, hu, hv, hI⟩
theorem md_mk {k w : Nat} {kn op cs ne be fi inp la nw ha nq : Nat → Int32} (hw : w ≤ 20 * k) (hI : md_I w kn op ne be fi la) : i_Rel k (nI w, kn, op, cs, ne, be, inp, la, nw) (nI w, kn, op, cs, fi, inp, la, nw, ha, nq) :=
  ⟨w, kn, op, cs, ne, be, fi, inp, la, nw, ha, nq, hw, rfl, rfl, hI⟩
theorem md_one : (1 : Int32) = 0 ∨ mk_9 1 := Or.inr (Or.inr (Or.inl rfl))
theorem i_vc0 : wpX_init (fun u => wpY_init (fun v => i_Rel 0 u v)) := by
  refine xi_init _ (yi_init _ (md_mk (k := 0) (w := 0) (Nat.le_refl 0) ⟨?_, ?_, ?_, ?_⟩))
  · intro j hj
    rw [mf_lt _ _ hj]
    refine ⟨Or.inr (Or.inl rfl), ⟨fun z => absurd z (by decide), fun z => absurd z (by decide), fun z => absurd z (by decide)⟩, ?_⟩
    unfold mv_dr
    rw [if_neg (by decide), if_neg (by decide), if_neg (by decide)]
  · intro j hj
    rw [mf_lt _ _ hj]
    exact ⟨fun _ => by decide, fun _ => rfl⟩
  · refine ⟨fun _ _ => False, ?_, fun _ _ _ z _ => z, fun _ z => z⟩
    intro a b d
    have h2 : bt 0 b = true := d.2
    rw [b_0] at h2
    exact absurd h2 (by decide)
  · exact fun _ _ _ => rfl
/-! ===== the small calls ===== -/
theorem i_vc_instants {k : Nat} {u : SX} {v : SY} (I : i_Rel k u v) (hk : k + 5 ≤ 2560) : wpX_instants (fun r => wpY_instants (fun r' => r' = r ∧ i_Rel (k + 5) u v) v) u := by
  have J := i_up I
  obtain ⟨w, kn, op, cs, ne, be, fi, inp, la, nw, ha, nq, hw, rfl, rfl, hI⟩ := I
  exact ⟨rfl, J⟩
theorem i_vc_input {k : Nat} {u : SX} {v : SY} (I : i_Rel k u v) (hk : k + 5 ≤ 2560) (v1 : Int32) (v2 : Int32) : wpX_input (fun r u' => wpY_input (fun r' v' => r' = r ∧ i_Rel (k + 5) u' v') v v1 v2) u v1 v2 := by
  obtain ⟨w, kn, op, cs, ne, be, fi, inp, la, nw, ha, nq, hw, rfl, rfl, hI⟩ := I
  have h3 := mo_in3 v1
  exact ⟨h3, nm_e ⟨h3, nm_e ⟨h3, nm_e ⟨h3, nm_e ⟨rfl, md_mk (by omega) hI⟩⟩⟩⟩⟩
theorem i_vc_reset {k : Nat} {u : SX} {v : SY} (I : i_Rel k u v) (hk : k + 5 ≤ 2560) : wpX_reset (fun u' => wpY_reset (fun v' => i_Rel (k + 5) u' v') v) u := by
  obtain ⟨w, kn, op, cs, ne, be, fi, inp, la, nw, ha, nq, hw, rfl, rfl, hI⟩ := I
  refine xi_reset _ kn op cs ne be inp la nw _ (yi_reset _ kn op cs fi inp la nw ha nq _ (md_mk (w := 0) (by omega) ⟨hI.1, ?_, hI.2.2.1, ?_⟩))
  · intro j hj
    rw [mf_lt _ _ hj, mf_lt _ _ hj]
    exact ⟨fun _ => by decide, fun _ => rfl⟩
  · intro _ j hj
    rw [mf_lt _ _ hj]
theorem i_vc_value {k : Nat} {u : SX} {v : SY} (I : i_Rel k u v) (hk : k + 5 ≤ 2560) (v1 : Int32) : wpX_value (fun r => wpY_value (fun r' => r' = r ∧ i_Rel (k + 5) u v) v v1) u v1 := by
  have J := i_up I
  obtain ⟨w, kn, op, cs, ne, be, fi, inp, la, nw, ha, nq, hw, rfl, rfl, hI⟩ := I
  unfold wpX_value wpY_value
  dsimp only
  rcases fl_c v1 with ⟨f, hf, rfl⟩ | hb
  · refine fl_x1 hf (br_f (by decide) ⟨mh_in32 hf, fl_y0 hf (br_t rfl (br_c (fun z => ⟨?_, J⟩) (fun z => ⟨mh_in hf, rfl, J⟩)))⟩)
    rw [mh_cl hf]
    have hw0 : w = 0 := by
      rcases Nat.eq_zero_or_pos w with y | y
      · exact y
      · exact absurd z (nI_ne0 y (by omega))
    exact (hI.2.2.2 hw0 f hf).symm
  · exact fl_x0 hb (br_t rfl (fl_y1 hb (br_f (by decide) ⟨rfl, J⟩)))
theorem i_vc_kind {k : Nat} {u : SX} {v : SY} (I : i_Rel k u v) (hk : k + 5 ≤ 2560) (v1 : Int32) : wpX_kind (fun r => wpY_kind (fun r' => r' = r ∧ i_Rel (k + 5) u v) v v1) u v1 := by
  have J := i_up I
  obtain ⟨w, kn, op, cs, ne, be, fi, inp, la, nw, ha, nq, hw, rfl, rfl, hI⟩ := I
  unfold wpX_kind wpY_kind
  dsimp only
  rcases fl_c v1 with ⟨f, hf, rfl⟩ | hb
  · exact fl_x1 hf (br_f (by decide) ⟨mh_in hf, fl_y0 hf (br_t rfl ⟨mh_in hf, rfl, J⟩)⟩)
  · exact fl_x0 hb (br_t rfl (fl_y1 hb (br_f (by decide) ⟨rfl, J⟩)))
theorem i_vc_next {k : Nat} {u : SX} {v : SY} (I : i_Rel k u v) (hk : k + 5 ≤ 2560) (v1 : Int32) : wpX_next (fun r u' => wpY_next (fun r' v' => r' = r ∧ i_Rel (k + 5) u' v') v v1) u v1 := by
  have J := i_up I
  obtain ⟨w, kn, op, cs, ne, be, fi, inp, la, nw, ha, nq, hw, rfl, rfl, hI⟩ := I
  unfold wpX_next wpY_next
  dsimp only
  rcases fl_c v1 with ⟨f, hf, rfl⟩ | hb
  · refine fl_x1 hf (br_f (by decide) (xi_work _ kn op cs ne be inp la nw _ (fun j hj => (hI.1 j hj).1) ⟨mh_in32 hf, fl_y0 hf (br_t rfl ?_)⟩))
    exact yi_inst _ kn op cs ne be fi inp la ha nq nw hI.1 hI.2.1 _ ⟨mh_in hf, rfl, md_mk (by omega) hI⟩
  · exact fl_x0 hb (br_t rfl (fl_y1 hb (br_f (by decide) ⟨rfl, J⟩)))
/-! ===== needs ===== -/
theorem md_nb (z : Int32) (h : z = 0 ∨ z = 1) : narrow .boolean (.int z) = .int z := by
  rcases h with rfl | rfl <;> rfl
/-- the reference's table has the component's needs as its direct relation -/
theorem md_tab {kn op ne nq : Nat → Int32} (hA : ∀ j, j < 18 → mk_9 (kn j) ∧ mv_ok (kn j) (op j) ∧ ne j = mv_dr (kn j) (op j)) : mx_D (yw_t kn op nq) = mx_D ne := by
  funext a b
  unfold mx_D yw_t
  apply propext
  constructor
  · intro h
    have := h.2
    rw [mf_lt _ _ h.1, ← (hA a h.1).2.2] at this
    exact ⟨h.1, this⟩
  · intro h
    have := h.2
    rw [(hA a h.1).2.2] at this
    refine ⟨h.1, ?_⟩
    rw [mf_lt _ _ h.1]
    exact this
theorem md_in {kn op ne : Nat → Int32} (hA : ∀ j, j < 18 → mk_9 (kn j) ∧ mv_ok (kn j) (op j) ∧ ne j = mv_dr (kn j) (op j)) : ∀ a, a < 18 → ∀ i, bt (ne a) i = true → i < 18 := by
  intro a ha i h
  rw [(hA a ha).2.2] at h
  exact mv_drIn (hA a ha).1 (hA a ha).2.1 i h
theorem i_vc_needs {k : Nat} {u : SX} {v : SY} (I : i_Rel k u v) (hk : k + 5 ≤ 2560) (v1 : Int32) (v2 : Int32) : wpX_needs (fun r => wpY_needs (fun r' v' => r' = r ∧ i_Rel (k + 5) u v') v v1 v2) u v1 v2 := by
  have J := i_up I
  obtain ⟨w, kn, op, cs, ne, be, fi, inp, la, nw, ha, nq, hw, rfl, rfl, hI⟩ := I
  unfold wpX_needs wpY_needs
  dsimp only
  rcases fl_c v1 with ⟨f, hf, rfl⟩ | hb
  · rcases fl_c v2 with ⟨g, hg, rfl⟩ | hb2
    · have hS := mx_LS ne (ne f) (fun i => md_in hI.1 f hf i) (md_in hI.1)
      have hB : (fun i => bt (ne f) i = true) = mx_D ne f := by
        funext i
        exact propext ⟨fun z => ⟨hf, z⟩, fun z => z.2⟩
      rw [hB] at hS
      have hT := wy_TC (yw_t kn op nq)
      rw [md_tab hI.1] at hT
      have key := mp_needs hS hT g
      have key2 : bt (wy_all 18 (yw_t kn op nq) f) g = true ↔ bt (mx_cl ne 18 (ne f)) g = true := ⟨fun z => key.mp ⟨hf, z⟩, fun z => (key.mpr z).2⟩
      refine fl_x1 hf (br_f (by decide) (fl_x1 hg (br_f (by decide) ⟨mh_in hf, ?_⟩)))
      rw [mh_cl hf]
      refine xw_needs _ kn op cs ne be inp la nw _ (ne f) (xw_con hg (fun c => ⟨rfl, ?_⟩) (fun c => ⟨rfl, ?_⟩))
      · refine fl_y0 hf (br_t rfl (fl_y0 hg (br_t rfl (yw_all _ kn op cs fi inp la nw ha nq _ (fun j hj => (hI.1 j hj).1) ⟨mh_in hf, br_f ?_ ⟨rfl, md_mk (by omega) hI⟩⟩))))
        show ¬ ((wy_all 18 (yw_t kn op nq) f) >>> (nI g &&& 31)) &&& 1 = 1
        rw [mt_y _ g (by omega), key2, c]
        decide
      · refine fl_y0 hf (br_t rfl (fl_y0 hg (br_t rfl (yw_all _ kn op cs fi inp la nw ha nq _ (fun j hj => (hI.1 j hj).1) ⟨mh_in hf, br_t ?_ ⟨rfl, md_mk (by omega) hI⟩⟩))))
        show ((wy_all 18 (yw_t kn op nq) f) >>> (nI g &&& 31)) &&& 1 = 1
        rw [mt_y _ g (by omega), key2, c]
    · exact fl_x1 hf (br_f (by decide) (fl_x0 hb2 (br_t rfl (fl_y0 hf (br_t rfl (fl_y1 hb2 (br_f (by decide) ⟨rfl, J⟩)))))))
  · exact fl_x0 hb (br_t rfl (fl_y1 hb (br_f (by decide) ⟨rfl, J⟩)))
