/-! ===== operands, kinds, direct needs ===== -/
def mo_a (op : Int32) : Int32 := op &&& 31
def mo_b (op : Int32) : Int32 := (op >>> ((5 : Int32) &&& 31)) &&& 31
def mo_s (op : Int32) : Int32 := (op >>> ((10 : Int32) &&& 31)) &&& 31
theorem mo_31 (x : Int32) : ∃ j : Nat, j < 32 ∧ x &&& 31 = nI j := by
  refine ⟨x.toBitVec.toNat % 32, Nat.mod_lt _ (by omega), ?_⟩
  apply Int32.toBitVec_inj.mp
  apply BitVec.eq_of_toNat_eq
  rw [Int32.toBitVec_and, BitVec.toNat_and, show (31 : Int32).toBitVec.toNat = 2 ^ 5 - 1 from by decide, Nat.and_two_pow_sub_one_eq_mod]
  show _ = (BitVec.ofNat 32 (x.toBitVec.toNat % 32)).toNat
  rw [BitVec.toNat_ofNat, Nat.mod_eq_of_lt (a := x.toBitVec.toNat % 32)]
  have : x.toBitVec.toNat % 32 < 32 := Nat.mod_lt _ (by omega)
  omega
theorem mo_3 (x : Int32) : ∃ j : Nat, j < 4 ∧ x &&& 3 = nI j := by
  refine ⟨x.toBitVec.toNat % 4, Nat.mod_lt _ (by omega), ?_⟩
  apply Int32.toBitVec_inj.mp
  apply BitVec.eq_of_toNat_eq
  rw [Int32.toBitVec_and, BitVec.toNat_and, show (3 : Int32).toBitVec.toNat = 2 ^ 2 - 1 from by decide, Nat.and_two_pow_sub_one_eq_mod]
  show _ = (BitVec.ofNat 32 (x.toBitVec.toNat % 4)).toNat
  rw [BitVec.toNat_ofNat, Nat.mod_eq_of_lt (a := x.toBitVec.toNat % 4)]
  have : x.toBitVec.toNat % 4 < 4 := Nat.mod_lt _ (by omega)
  omega
theorem mo_shr0 (x : Int32) : x >>> ((0 : Int32) &&& 31) = x := by
  apply b_ext
  intro i hi
  have := b_sshr 0 (by omega) x hi
  rw [show nI 0 = 0 from nI_0] at this
  rw [this, if_pos (by omega), Nat.zero_add]
/-- a kind is one of nine -/
def mk_9 (k : Int32) : Prop := k = 0 ∨ k = 1 ∨ k = 2 ∨ k = 3 ∨ k = 4 ∨ k = 5 ∨ k = 6 ∨ k = 7 ∨ k = 8
theorem mk_of {k : Int32} (h0 : ¬ k < 0) (h8 : k ≤ 8) : mk_9 k := by
  obtain ⟨j, hj, rfl⟩ := nI_of2 (n := 8) (by decide) h0 h8
  have : j = 0 ∨ j = 1 ∨ j = 2 ∨ j = 3 ∨ j = 4 ∨ j = 5 ∨ j = 6 ∨ j = 7 ∨ j = 8 := by omega
  unfold mk_9
  rcases this with rfl | rfl | rfl | rfl | rfl | rfl | rfl | rfl | rfl <;> decide
/-- the one-element set of an operand -/
def mo_1 (x : Int32) : Int32 := (1 : Int32) <<< (x &&& 31)
/-- what a definition needs directly -/
def mv_dr (k op : Int32) : Int32 :=
  if k = 2 ∨ k = 3 ∨ k = 4 ∨ k = 5 then mo_1 (mo_a op) ||| mo_1 (mo_b op)
  else if k = 6 then (mo_1 (mo_a op) ||| mo_1 (mo_b op)) ||| mo_1 (mo_s op)
  else if k = 8 then mo_1 (mo_a op) ||| mo_1 (mo_s op)
  else 0
/-- what a kind names: what it needs, and PRE's operand -/
def mv_nm (k op : Int32) : Int32 := if k = 7 then mo_1 (mo_a op) else mv_dr k op
/-- the operands that the kind names are flows -/
def mv_ok (k op : Int32) : Prop :=
  ((k = 2 ∨ k = 3 ∨ k = 4 ∨ k = 5 ∨ k = 6 ∨ k = 7 ∨ k = 8) → (mo_a op).toNatClampNeg < 18) ∧ ((k = 2 ∨ k = 3 ∨ k = 4 ∨ k = 5 ∨ k = 6) → (mo_b op).toNatClampNeg < 18) ∧ ((k = 6 ∨ k = 8) → (mo_s op).toNatClampNeg < 18)
theorem mo_1b (x : Int32) {i : Nat} (hi : i < 32) : bt (mo_1 (x &&& 31)) i = decide (i = (x &&& 31).toNatClampNeg) := by
  obtain ⟨j, hj, e⟩ := mo_31 x
  rw [e, nI_clamp (by omega)]
  exact mt_sh j hj hi
theorem mo_1a (op : Int32) {i : Nat} (hi : i < 32) : bt (mo_1 (mo_a op)) i = decide (i = (mo_a op).toNatClampNeg) := mo_1b op hi
theorem mo_1bb (op : Int32) {i : Nat} (hi : i < 32) : bt (mo_1 (mo_b op)) i = decide (i = (mo_b op).toNatClampNeg) := mo_1b _ hi
theorem mo_1s (op : Int32) {i : Nat} (hi : i < 32) : bt (mo_1 (mo_s op)) i = decide (i = (mo_s op).toNatClampNeg) := mo_1b _ hi
theorem mo_lt (x : Int32) : (x &&& 31).toNatClampNeg < 32 := by
  obtain ⟨j, hj, e⟩ := mo_31 x
  rw [e, nI_clamp (by omega)]
  exact hj
theorem mo_18 (x : Int32) : (∀ i, 18 ≤ i → bt (mo_1 (x &&& 31)) i = false) ↔ (x &&& 31).toNatClampNeg < 18 := by
  constructor
  · intro h
    rcases Nat.lt_or_ge (x &&& 31).toNatClampNeg 18 with z | z
    · exact z
    · have := h _ z
      rw [mo_1b x (mo_lt x)] at this
      simp at this
  · intro h i hi
    rcases Nat.lt_or_ge i 32 with z | z
    · rw [mo_1b x z]
      exact decide_eq_false (by omega)
    · exact b_big z
theorem mo_or18 (x y : Int32) : (∀ i, 18 ≤ i → bt (x ||| y) i = false) ↔ ((∀ i, 18 ≤ i → bt x i = false) ∧ (∀ i, 18 ≤ i → bt y i = false)) := by
  constructor
  · intro h
    constructor
    · intro i hi
      have := h i hi
      rw [b_or, Bool.or_eq_false_iff] at this
      exact this.1
    · intro i hi
      have := h i hi
      rw [b_or, Bool.or_eq_false_iff] at this
      exact this.2
  · intro h i hi
    rw [b_or, h.1 i hi, h.2 i hi]; rfl
theorem mv_nmok {k op : Int32} (hk : mk_9 k) : (∀ i, 18 ≤ i → bt (mv_nm k op) i = false) ↔ mv_ok k op := by
  have hz : (∀ i, 18 ≤ i → bt (0 : Int32) i = false) := fun i _ => b_0 i
  have ea : (∀ i, 18 ≤ i → bt (mo_1 (mo_a op)) i = false) ↔ (mo_a op).toNatClampNeg < 18 := mo_18 op
  have eb : (∀ i, 18 ≤ i → bt (mo_1 (mo_b op)) i = false) ↔ (mo_b op).toNatClampNeg < 18 := mo_18 _
  have es : (∀ i, 18 ≤ i → bt (mo_1 (mo_s op)) i = false) ↔ (mo_s op).toNatClampNeg < 18 := mo_18 _
  unfold mv_nm mv_dr mv_ok
  rcases hk with rfl | rfl | rfl | rfl | rfl | rfl | rfl | rfl | rfl
  · rw [if_neg (by decide), if_neg (by decide), if_neg (by decide), if_neg (by decide)]
    exact ⟨fun _ => ⟨fun z => absurd z (by decide), fun z => absurd z (by decide), fun z => absurd z (by decide)⟩, fun _ => hz⟩
  · rw [if_neg (by decide), if_neg (by decide), if_neg (by decide), if_neg (by decide)]
    exact ⟨fun _ => ⟨fun z => absurd z (by decide), fun z => absurd z (by decide), fun z => absurd z (by decide)⟩, fun _ => hz⟩
  · rw [if_neg (by decide), if_pos (by decide), mo_or18, ea, eb]
    exact ⟨fun h => ⟨fun _ => h.1, fun _ => h.2, fun z => absurd z (by decide)⟩, fun h => ⟨h.1 (by decide), h.2.1 (by decide)⟩⟩
  · rw [if_neg (by decide), if_pos (by decide), mo_or18, ea, eb]
    exact ⟨fun h => ⟨fun _ => h.1, fun _ => h.2, fun z => absurd z (by decide)⟩, fun h => ⟨h.1 (by decide), h.2.1 (by decide)⟩⟩
  · rw [if_neg (by decide), if_pos (by decide), mo_or18, ea, eb]
    exact ⟨fun h => ⟨fun _ => h.1, fun _ => h.2, fun z => absurd z (by decide)⟩, fun h => ⟨h.1 (by decide), h.2.1 (by decide)⟩⟩
  · rw [if_neg (by decide), if_pos (by decide), mo_or18, ea, eb]
    exact ⟨fun h => ⟨fun _ => h.1, fun _ => h.2, fun z => absurd z (by decide)⟩, fun h => ⟨h.1 (by decide), h.2.1 (by decide)⟩⟩
  · rw [if_neg (by decide), if_neg (by decide), if_pos (by decide), mo_or18, mo_or18, ea, eb, es]
    exact ⟨fun h => ⟨fun _ => h.1.1, fun _ => h.1.2, fun _ => h.2⟩, fun h => ⟨⟨h.1 (by decide), h.2.1 (by decide)⟩, h.2.2 (by decide)⟩⟩
  · rw [if_pos (by decide), ea]
    exact ⟨fun h => ⟨fun _ => h, fun z => absurd z (by decide), fun z => absurd z (by decide)⟩, fun h => h.1 (by decide)⟩
  · rw [if_neg (by decide), if_neg (by decide), if_neg (by decide), if_pos (by decide), mo_or18, ea, es]
    exact ⟨fun h => ⟨fun _ => h.1, fun z => absurd z (by decide), fun _ => h.2⟩, fun h => ⟨h.1 (by decide), h.2.2 (by decide)⟩⟩
theorem mv_drIn {k op : Int32} (hk : mk_9 k) (ho : mv_ok k op) : ∀ i, bt (mv_dr k op) i = true → i < 18 := by
  intro i hi
  rcases Nat.lt_or_ge i 18 with z | z
  · exact z
  · have h := (mv_nmok hk).mpr ho i z
    unfold mv_nm at h
    by_cases e : k = 7
    · subst e
      unfold mv_dr at hi
      rw [if_neg (by decide), if_neg (by decide), if_neg (by decide), b_0] at hi
      exact absurd hi (by decide)
    · rw [if_neg e] at h
      rw [h] at hi
      exact absurd hi (by decide)
/-! ===== the value of a flow in an instant ===== -/
def mv_val (k op c bg : Int32) (inp last now : Nat → Int32) (f : Nat) : Int32 :=
  if k = 0 then inp (c &&& 3).toNatClampNeg
  else if k = 1 then c
  else if k = 2 then now (mo_a op).toNatClampNeg + now (mo_b op).toNatClampNeg
  else if k = 3 then now (mo_a op).toNatClampNeg - now (mo_b op).toNatClampNeg
  else if k = 4 then now (mo_a op).toNatClampNeg * now (mo_b op).toNatClampNeg
  else if k = 5 then (if now (mo_a op).toNatClampNeg < now (mo_b op).toNatClampNeg then 1 else 0)
  else if k = 6 then (if now (mo_s op).toNatClampNeg = 0 then now (mo_b op).toNatClampNeg else now (mo_a op).toNatClampNeg)
  else if k = 7 then (if bg = 0 then c else last (mo_a op).toNatClampNeg)
  else (if now (mo_s op).toNatClampNeg = 0 then (if bg = 0 then c else last f) else now (mo_a op).toNatClampNeg)
/-! ===== filling an array from its beginning ===== -/
def mf_cp (n : Nat) (s d : Nat → Int32) : Nat → Int32 := fun j => if j < n then s j else d j
theorem mf_0 (s d : Nat → Int32) : mf_cp 0 s d = d := rfl
theorem mf_s (n : Nat) (s d : Nat → Int32) : upd (mf_cp n s d) n (s n) = mf_cp (n + 1) s d := by
  funext j
  show (if j = n then s n else if j < n then s j else d j) = if j < n + 1 then s j else d j
  by_cases e : j = n
  · subst e
    rw [if_pos rfl, if_pos (by omega)]
  · by_cases z : j < n
    · rw [if_neg e, if_pos z, if_pos (show j < n + 1 by omega)]
    · rw [if_neg e, if_neg z, if_neg (show ¬ j < n + 1 by omega)]
theorem mf_lt {n j : Nat} (s d : Nat → Int32) (h : j < n) : mf_cp n s d j = s j := if_pos h
theorem mf_ge {n j : Nat} (s d : Nat → Int32) (h : ¬ j < n) : mf_cp n s d j = d j := if_neg h
/-! ===== one instant: the set of the flows done, and their values ===== -/
section
variable (nd : Nat → Int32) (val : (Nat → Int32) → Nat → Int32)
def mi_rd (d : Int32) (f : Nat) : Prop := (nd f &&& (d ^^^ (-1))) = 0 ∧ bt d f = false
noncomputable def mi_row (p : Int32 × (Nat → Int32)) (f : Nat) : Int32 × (Nat → Int32) :=
  if nd f &&& (p.1 ^^^ (-1)) = 0 ∧ bt p.1 f = false then (p.1 ||| (1 : Int32) <<< (nI f &&& 31), upd p.2 f (val p.2 f)) else p
noncomputable def mi_pass : Nat → Int32 × (Nat → Int32) → Int32 × (Nat → Int32)
  | 0, p => p
  | f + 1, p => mi_row nd val (mi_pass f p) f
noncomputable def mi_all : Nat → Int32 × (Nat → Int32) → Int32 × (Nat → Int32)
  | 0, p => p
  | r + 1, p => mi_pass nd val 18 (mi_all r p)
theorem mi_t {p : Int32 × (Nat → Int32)} {f : Nat} (h1 : nd f &&& (p.1 ^^^ (-1)) = 0) (h2 : bt p.1 f = false) : mi_row nd val p f = (p.1 ||| (1 : Int32) <<< (nI f &&& 31), upd p.2 f (val p.2 f)) := if_pos ⟨h1, h2⟩
theorem mi_f1 {p : Int32 × (Nat → Int32)} {f : Nat} (h : ¬ nd f &&& (p.1 ^^^ (-1)) = 0) : mi_row nd val p f = p := if_neg (fun z => h z.1)
theorem mi_f2 {p : Int32 × (Nat → Int32)} {f : Nat} (h : bt p.1 f = true) : mi_row nd val p f = p := if_neg (fun z => by rw [h] at z; exact absurd z.2 (by decide))
end
