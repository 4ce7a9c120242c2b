/-! ===== define: the tables ===== -/
theorem df_us (g : Nat → Int32) (f : Nat) (x : Int32) : upd g f x f = x := if_pos rfl
theorem df_un (g : Nat → Int32) {f j : Nat} (x : Int32) (h : j ≠ f) : upd g f x j = g j := if_neg h
theorem df_back (g : Nat → Int32) (f : Nat) (x : Int32) : upd (upd g f x) f (g f) = g := by
  funext j
  show (if j = f then g f else (if j = f then x else g j)) = g j
  by_cases e : j = f
  · rw [if_pos e, e]
  · rw [if_neg e, if_neg e]
section
variable {kn op ne nq : Nat → Int32} {k o : Int32} {f : Nat}
theorem df_rows (hA : ∀ j, j < 18 → mk_9 (kn j) ∧ mv_ok (kn j) (op j) ∧ ne j = mv_dr (kn j) (op j)) (hk : mk_9 k) (ho : mv_ok k o) : ∀ j, j < 18 → mk_9 (upd kn f k j) ∧ mv_ok (upd kn f k j) (upd op f o j) ∧ upd ne f (mv_dr k o) j = mv_dr (upd kn f k j) (upd op f o j) := by
  intro j hj
  by_cases e : j = f
  · subst e
    rw [df_us, df_us, df_us]
    exact ⟨hk, ho, rfl⟩
  · rw [df_un _ _ e, df_un _ _ e, df_un _ _ e]
    exact hA j hj
theorem df_pure (hf : f < 18) (hA : ∀ j, j < 18 → mk_9 (kn j) ∧ mv_ok (kn j) (op j) ∧ ne j = mv_dr (kn j) (op j)) (hC : mp_Ac (mx_D ne)) (hk : mk_9 k) (ho : mv_ok k o) :
    (bt (mx_cl ne 18 (mv_dr k o)) f = true → bt (wy_all 18 (yw_t (upd kn f k) (upd op f o) nq) f) f = true) ∧
    (bt (mx_cl ne 18 (mv_dr k o)) f = false → (∀ a, a < 18 → bt (wy_all 18 (yw_t (upd kn f k) (upd op f o) nq) a) a = false) ∧ wy_all 18 (yw_t (upd kn f k) (upd op f o) nq) f = mx_cl ne 18 (mv_dr k o) ∧ mp_Ac (mx_D (upd ne f (mv_dr k o)))) := by
  have hT := wy_TC (yw_t (upd kn f k) (upd op f o) nq)
  rw [md_tab (df_rows (f := f) hA hk ho)] at hT
  have hS := mx_LS ne (mv_dr k o) (mv_drIn hk ho) (md_in hA)
  have hne : ∀ a b, a ≠ f → (mx_D (upd ne f (mv_dr k o)) a b ↔ mx_D ne a b) := by
    intro a b e
    unfold mx_D
    rw [df_un _ _ e]
  have heq : ∀ b, mx_D (upd ne f (mv_dr k o)) f b ↔ bt (mv_dr k o) b = true := by
    intro b
    unfold mx_D
    rw [df_us]
    exact ⟨fun z => z.2, fun z => ⟨hf, z⟩⟩
  constructor
  · intro h
    exact (mp_def1 hne heq hS hT h).2
  · intro h
    obtain ⟨h1, h2, h3⟩ := mp_def2 hne heq hS hT hC (by rw [h]; decide)
    refine ⟨?_, ?_, h3⟩
    · intro a ha
      cases e : bt (wy_all 18 (yw_t (upd kn f k) (upd op f o) nq) a) a
      · rfl
      · exact absurd ⟨ha, e⟩ (h1 a)
    · apply b_ext
      intro i _
      have z := h2 i
      cases e : bt (mx_cl ne 18 (mv_dr k o)) i
      · cases e2 : bt (wy_all 18 (yw_t (upd kn f k) (upd op f o) nq) f) i
        · rfl
        · have := z.mp ⟨hf, e2⟩
          rw [e] at this
          exact absurd this (by decide)
      · exact (z.mpr e).2
end
/-! ===== define: the reference's roads ===== -/
theorem df_17 (x : Int32) : ((x &&& 31) ≤ 17) ↔ (x &&& 31).toNatClampNeg < 18 := by
  obtain ⟨j, hj, e⟩ := mo_31 x
  rw [e, nI_clamp (by omega)]
  have := nI_leI (a := j) (b := 17) (by omega) (by decide)
  exact ⟨fun z => by have := this.mp z; omega, fun z => this.mpr (by omega)⟩
theorem df_nb {k : Int32} (hk : mk_9 k) : (k = 2 ∨ k = 3 ∨ k = 4 ∨ k = 5 ∨ k = 6) ↔ (¬ k < 2 ∧ ¬ 6 < k) := by
  rcases hk with rfl | rfl | rfl | rfl | rfl | rfl | rfl | rfl | rfl <;> decide
theorem df_na {k : Int32} (hk : mk_9 k) : (k = 2 ∨ k = 3 ∨ k = 4 ∨ k = 5 ∨ k = 6 ∨ k = 7 ∨ k = 8) ↔ ¬ k ≤ 1 := by
  rcases hk with rfl | rfl | rfl | rfl | rfl | rfl | rfl | rfl | rfl <;> decide
section
variable (fw : Int32) (kn op cs fi inp la nw ha nq : Nat → Int32) (post : Int32 → SY → Prop) (x1 k o c : Int32)
theorem df_95b (x5 x6 z0 : Int32) (hz : ¬ (x5 = 0 ∧ x6 = 0 ∧ z0 = 0)) (h : post (-1) (fw, kn, op, cs, fi, inp, la, nw, ha, nq)) : wY_define_95 post x1 k o c x5 x6 z0 fw kn op cs fi inp la nw ha nq :=
  br_c (fun a => br_c (fun b => br_f (fun e => hz ⟨a, b, e⟩) h) (fun _ => h)) (fun _ => h)
theorem df_68 (x5 x6 : Int32) (hA : ((k = 6 ∨ k = 8) → (mo_s o).toNatClampNeg < 18) → wY_define_95 post x1 k o c x5 x6 0 fw kn op cs fi inp la nw ha nq) (hB : ¬ ((k = 6 ∨ k = 8) → (mo_s o).toNatClampNeg < 18) → wY_define_95 post x1 k o c x5 x6 1 fw kn op cs fi inp la nw ha nq) : wY_define_68 post x1 k o c x5 x6 fw kn op cs fi inp la nw ha nq := by
  have e17 : (((o >>> ((10 : Int32) &&& 31)) &&& 31) ≤ 17) ↔ (mo_s o).toNatClampNeg < 18 := df_17 _
  have both : (k = 6 ∨ k = 8) → (((((o >>> ((10 : Int32) &&& 31)) &&& 31) ≤ 17) → wY_define_94 post x1 k o c x5 x6 fw kn op cs fi inp la nw ha nq) ∧ (¬ (((o >>> ((10 : Int32) &&& 31)) &&& 31) ≤ 17) → wY_define_95 post x1 k o c x5 x6 1 fw kn op cs fi inp la nw ha nq)) :=
    fun hs => ⟨fun z => hA (fun _ => e17.mp z), fun z => hB (fun q => z (e17.mpr (q hs)))⟩
  unfold wY_define_68 wpY_namesS
  dsimp only
  exact br_c (fun e => br_f (by decide) (both (Or.inl e))) (fun e => br_c (fun e2 => br_f (by decide) (both (Or.inr e2))) (fun e2 => br_t rfl (hA (fun z => absurd z (fun y => y.elim e e2)))))
theorem df_42 (hk : mk_9 k) (x5 : Int32) (hA : ((k = 2 ∨ k = 3 ∨ k = 4 ∨ k = 5 ∨ k = 6) → (mo_b o).toNatClampNeg < 18) → wY_define_68 post x1 k o c x5 0 fw kn op cs fi inp la nw ha nq) (hB : ¬ ((k = 2 ∨ k = 3 ∨ k = 4 ∨ k = 5 ∨ k = 6) → (mo_b o).toNatClampNeg < 18) → wY_define_68 post x1 k o c x5 1 fw kn op cs fi inp la nw ha nq) : wY_define_42 post x1 k o c x5 fw kn op cs fi inp la nw ha nq := by
  have e17 : (((o >>> ((5 : Int32) &&& 31)) &&& 31) ≤ 17) ↔ (mo_b o).toNatClampNeg < 18 := df_17 _
  unfold wY_define_42 wpY_namesB
  dsimp only
  exact br_c (fun e => br_t rfl (hA (fun z => absurd e ((df_nb hk).mp z).1))) (fun e => br_c (fun e2 => br_t rfl (hA (fun z => absurd e2 ((df_nb hk).mp z).2))) (fun e2 => br_f (by decide) (br_c (fun z => hA (fun _ => e17.mp z)) (fun z => hB (fun q => z (e17.mpr (q ((df_nb hk).mpr ⟨e, e2⟩))))))))
theorem df_y (hk : mk_9 k) (h0 : ¬ k < 0) (h8 : k ≤ 8) (f : Nat) (hf : f < 18) (hok : mv_ok k o → wY_define_95 post (nI f) k o c 0 0 0 fw kn op cs fi inp la nw ha nq) (hbad : ¬ mv_ok k o → post (-1) (fw, kn, op, cs, fi, inp, la, nw, ha, nq)) : wpY_define post (fw, kn, op, cs, fi, inp, la, nw, ha, nq) (nI f) k o c := by
  have e17 : ((o &&& 31) ≤ 17) ↔ (mo_a o).toNatClampNeg < 18 := df_17 _
  have key : ∀ x5 : Int32, (x5 = 0 ↔ ((k = 2 ∨ k = 3 ∨ k = 4 ∨ k = 5 ∨ k = 6 ∨ k = 7 ∨ k = 8) → (mo_a o).toNatClampNeg < 18)) → wY_define_42 post (nI f) k o c x5 fw kn op cs fi inp la nw ha nq := by
    intro x5 h5
    have fin : ∀ x6 z0 : Int32, (x6 = 0 ↔ ((k = 2 ∨ k = 3 ∨ k = 4 ∨ k = 5 ∨ k = 6) → (mo_b o).toNatClampNeg < 18)) → (z0 = 0 ↔ ((k = 6 ∨ k = 8) → (mo_s o).toNatClampNeg < 18)) → wY_define_95 post (nI f) k o c x5 x6 z0 fw kn op cs fi inp la nw ha nq := by
      intro x6 z0 h6 hz
      by_cases ok : mv_ok k o
      · obtain rfl := h5.mpr ok.1
        obtain rfl := h6.mpr ok.2.1
        obtain rfl := hz.mpr ok.2.2
        exact hok ok
      · exact df_95b fw kn op cs fi inp la nw ha nq post (nI f) k o c x5 x6 z0 (fun z => ok ⟨h5.mp z.1, h6.mp z.2.1, hz.mp z.2.2⟩) (hbad ok)
    have s68 : ∀ x6 : Int32, (x6 = 0 ↔ ((k = 2 ∨ k = 3 ∨ k = 4 ∨ k = 5 ∨ k = 6) → (mo_b o).toNatClampNeg < 18)) → wY_define_68 post (nI f) k o c x5 x6 fw kn op cs fi inp la nw ha nq :=
      fun x6 h6 => df_68 fw kn op cs fi inp la nw ha nq post (nI f) k o c x5 x6 (fun z => fin x6 0 h6 ⟨fun _ => z, fun _ => rfl⟩) (fun z => fin x6 1 h6 ⟨fun y => absurd y (by decide), fun y => absurd y z⟩)
    exact df_42 fw kn op cs fi inp la nw ha nq post (nI f) k o c hk x5 (fun z => s68 0 ⟨fun _ => z, fun _ => rfl⟩) (fun z => s68 1 ⟨fun y => absurd y (by decide), fun y => absurd y z⟩)
  unfold wpY_define
  dsimp only
  exact fl_y0 hf (br_t rfl (br_f h0 (br_t h8 (br_c (fun z => key 0 ⟨fun _ y => absurd z ((df_na hk).mp y), fun _ => rfl⟩) (fun z => br_c (fun y => key 0 ⟨fun _ _ => e17.mp y, fun _ => rfl⟩) (fun y => key 1 ⟨fun q => absurd q (by decide), fun q => absurd (e17.mpr (q ((df_na hk).mpr z))) y⟩))))))
theorem df_95 (hkn : ∀ j, j < 18 → mk_9 (upd kn x1.toNatClampNeg k j)) (f : Nat) (hf : f < 18) (ex : x1 = nI f)
    (h1 : bt (wy_all 18 (yw_t (upd kn f k) (upd op f o) nq) f) f = true → post (-3) (fw, kn, op, cs, fi, inp, la, nw, ha, wy_all 18 (yw_t (upd kn f k) (upd op f o) nq)))
    (hc : (∃ a, a < 18 ∧ bt (wy_all 18 (yw_t (upd kn f k) (upd op f o) nq) a) a = true) → bt (wy_all 18 (yw_t (upd kn f k) (upd op f o) nq) f) f = true)
    (h0 : (∀ a, a < 18 → bt (wy_all 18 (yw_t (upd kn f k) (upd op f o) nq) a) a = false) → post (ms_n (wy_all 18 (yw_t (upd kn f k) (upd op f o) nq) f) 18) (fw, upd kn f k, upd op f o, upd cs f c, upd fi f 1, inp, la, nw, ha, wy_all 18 (yw_t (upd kn f k) (upd op f o) nq))) : wY_define_95 post x1 k o c 0 0 0 fw kn op cs fi inp la nw ha nq := by
  subst ex
  rw [mh_cl hf] at hkn
  refine br_t rfl (br_t rfl (br_t rfl ⟨mh_in hf, nm_e ⟨mh_in hf, nm_e ⟨mh_in hf, nm_e ⟨mh_in hf, nm_e ?_⟩⟩⟩⟩))
  rw [mh_cl hf]
  refine yw_circle fw (upd kn f k) (upd op f o) cs fi inp la nw ha nq _ hkn (fun z => br_f (by decide) ?_) (fun z => br_t rfl ?_)
  · refine ⟨mh_in hf, nm_r (df_back kn f k) ⟨mh_in hf, nm_r (df_back op f o) (h1 (hc z))⟩⟩
  · refine ⟨mh_in hf, nm_e ⟨mh_in hf, nm_r (e' := upd fi f 1) (by rw [mh_b1]) ⟨19, ?_⟩⟩⟩
    exact yw_191 fw (upd kn f k) (upd op f o) (upd cs f c) (upd fi f 1) inp la nw ha _ post f hf (h0 z) 18 0 rfl
end
theorem df_51 (post : Int32 → SX → Prop) (f : Nat) (hf : f < 18) (k o c z0 : Int32) (fw : Int32) (kn op cs ne be inp la nw : Nat → Int32) (h1 : bt (mx_cl ne 18 z0) f = true → post (-3) (fw, kn, op, cs, ne, be, inp, la, nw)) (h0 : bt (mx_cl ne 18 z0) f = false → post (ms_n (mx_cl ne 18 z0) 18) (fw, upd kn f k, upd op f o, upd cs f c, upd ne f z0, upd be f 0, inp, la, nw)) : wX_define_51 post (nI f) k o c z0 fw kn op cs ne be inp la nw := by
  unfold wX_define_51
  rw [mh_cl hf, mh_b0]
  refine xw_needs fw kn op cs ne be inp la nw _ z0 (xw_con hf (fun b => br_t rfl ?_) (fun b => br_f (by decide) (h1 b)))
  exact ⟨mh_in hf, nm_e ⟨mh_in hf, nm_e ⟨mh_in hf, nm_e ⟨mh_in hf, nm_e ⟨mh_in hf, nm_e (xw_size _ _ (h0 b))⟩⟩⟩⟩⟩
theorem df_x (post : Int32 → SX → Prop) (f : Nat) (hf : f < 18) (k o c : Int32) (hk : mk_9 k) (h0 : ¬ k < 0) (h8 : k ≤ 8) (fw : Int32) (kn op cs ne be inp la nw : Nat → Int32) (hok : mv_ok k o → wX_define_51 post (nI f) k o c (mv_dr k o) fw kn op cs ne be inp la nw) (hbad : ¬ mv_ok k o → post (-1) (fw, kn, op, cs, ne, be, inp, la, nw)) : wpX_define post (fw, kn, op, cs, ne, be, inp, la, nw) (nI f) k o c := by
  unfold wpX_define
  dsimp only
  refine fl_x1 hf (br_f (by decide) (br_f h0 (br_t h8 (xw_named _ k o hk (br_c (fun z => ?_) (fun z => hbad (fun y => z ?_)))))))
  · have H := hok ((mv_nmok hk).mp ((mt_u18 _).mp z))
    refine br_c (fun e => ?_) (fun e => ?_)
    · subst e
      have e0 : mv_dr 7 o = 0 := by
        unfold mv_dr
        rw [if_neg (by decide), if_neg (by decide), if_neg (by decide)]
      rw [e0] at H
      exact H
    · rw [show mv_nm k o = mv_dr k o from if_neg e]
      exact H
  · exact (mt_u18 _).mpr ((mv_nmok hk).mpr y)
theorem i_vc_define {k : Nat} {u : SX} {v : SY} (I : i_Rel k u v) (hk : k + 5 ≤ 2560) (v1 : Int32) (v2 : Int32) (v3 : Int32) (v4 : Int32) : wpX_define (fun r u' => wpY_define (fun r' v' => r' = r ∧ i_Rel (k + 5) u' v') v v1 v2 v3 v4) u v1 v2 v3 v4 := by
  have J := i_up I
  obtain ⟨w, kn, op, cs, ne, be, fi, inp, la, nw, ha, nq, hw, rfl, rfl, hI⟩ := I
  rcases fl_c v1 with ⟨f, hf, rfl⟩ | hb
  · by_cases h0 : v2 < 0
    · unfold wpX_define wpY_define
      dsimp only
      exact fl_x1 hf (br_f (by decide) (br_t h0 (fl_y0 hf (br_t rfl (br_t h0 ⟨rfl, J⟩)))))
    · by_cases h8 : v2 ≤ 8
      · have k9 := mk_of h0 h8
        refine df_x _ f hf v2 v3 v4 k9 h0 h8 _ kn op cs ne be inp la nw (fun ok => ?_) (fun bad => ?_)
        · have P := df_pure (nq := nq) hf hI.1 hI.2.2.1 k9 ok
          have rows := df_rows (f := f) hI.1 k9 ok
          refine df_51 _ f hf v2 v3 v4 (mv_dr v2 v3) _ kn op cs ne be inp la nw (fun b => ?_) (fun b => ?_)
          · have P1 := P.1 b
            refine df_y _ kn op cs fi inp la nw ha nq _ v2 v3 v4 k9 h0 h8 f hf (fun _ => ?_) (fun z => absurd ok z)
            refine df_95 _ kn op cs fi inp la nw ha nq _ (nI f) v2 v3 v4 ?_ f hf rfl (fun _ => ⟨rfl, md_mk (by omega) hI⟩) (fun _ => P1) (fun z => ?_)
            · rw [mh_cl hf]
              exact fun j hj => (rows j hj).1
            · have := z f hf
              rw [P1] at this
              exact absurd this (by decide)
          · obtain ⟨p1, p2, p3⟩ := P.2 b
            refine df_y _ kn op cs fi inp la nw ha nq _ v2 v3 v4 k9 h0 h8 f hf (fun _ => ?_) (fun z => absurd ok z)
            refine df_95 _ kn op cs fi inp la nw ha nq _ (nI f) v2 v3 v4 ?_ f hf rfl (fun z => ?_) (fun z => ?_) (fun _ => ⟨?_, md_mk (by omega) ⟨rows, ?_, p3, hI.2.2.2⟩⟩)
            · rw [mh_cl hf]
              exact fun j hj => (rows j hj).1
            · have := p1 f hf
              rw [z] at this
              exact absurd this (by decide)
            · obtain ⟨a, haa, hb⟩ := z
              have := p1 a haa
              rw [hb] at this
              exact absurd this (by decide)
            · rw [p2]
            · intro j hj
              by_cases e : j = f
              · subst e
                rw [df_us, df_us]
                exact ⟨fun _ => by decide, fun _ => rfl⟩
              · rw [df_un _ _ e, df_un _ _ e]
                exact hI.2.1 j hj
        · exact df_y _ kn op cs fi inp la nw ha nq _ v2 v3 v4 k9 h0 h8 f hf (fun ok => absurd ok bad) (fun _ => ⟨rfl, J⟩)
      · unfold wpX_define wpY_define
        dsimp only
        exact fl_x1 hf (br_f (by decide) (br_f h0 (br_f h8 (fl_y0 hf (br_t rfl (br_f h0 (br_f h8 ⟨rfl, J⟩)))))))
  · unfold wpX_define wpY_define
    dsimp only
    exact fl_x0 hb (br_t rfl (fl_y1 hb (br_f (by decide) ⟨rfl, J⟩)))
