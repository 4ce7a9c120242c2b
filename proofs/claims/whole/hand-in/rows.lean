section
/-! ===== Int32 by its bits: bt x i ===== -/
def bt (x : Int32) (i : Nat) : Bool := x.toBitVec.getLsbD i
theorem b_ext {x y : Int32} (h : ∀ i, i < 32 → bt x i = bt y i) : x = y := Int32.toBitVec_inj.mp (BitVec.eq_of_getLsbD_eq (fun i hi => h i hi))
theorem b_or (x y : Int32) (i : Nat) : bt (x ||| y) i = (bt x i || bt y i) := by unfold bt; rw [Int32.toBitVec_or, BitVec.getLsbD_or]
theorem b_and (x y : Int32) (i : Nat) : bt (x &&& y) i = (bt x i && bt y i) := by unfold bt; rw [Int32.toBitVec_and, BitVec.getLsbD_and]
theorem b_xor (x y : Int32) (i : Nat) : bt (x ^^^ y) i = (bt x i ^^ bt y i) := by unfold bt; rw [Int32.toBitVec_xor, BitVec.getLsbD_xor]
theorem b_big {x : Int32} {i : Nat} (h : 32 ≤ i) : bt x i = false := BitVec.getLsbD_of_ge _ _ h
theorem b_255 (i : Nat) : bt 255 i = decide (i < 8) := by
  rcases Nat.lt_or_ge i 32 with h | h
  · exact (by decide +kernel : ∀ i, i < 32 → bt 255 i = decide (i < 8)) i h
  · rw [b_big h, decide_eq_false (by omega)]
theorem b_65535 (i : Nat) : bt 65535 i = decide (i < 16) := by
  rcases Nat.lt_or_ge i 32 with h | h
  · exact (by decide +kernel : ∀ i, i < 32 → bt 65535 i = decide (i < 16)) i h
  · rw [b_big h, decide_eq_false (by omega)]
theorem b_m1 : ∀ i, i < 32 → bt (-1) i = true := by decide +kernel
theorem b_0 (i : Nat) : bt 0 i = false := BitVec.getLsbD_zero
theorem s_l : ∀ n, n < 32 → ((nI n &&& 31).toBitVec.smod 32).toNat = n := by decide +kernel
theorem s_u : ∀ n, n < 32 → (((nI n).toUInt32 &&& Int32.toUInt32 31).toBitVec % 32).toNat = n := by decide +kernel
theorem b_shl (n : Nat) (hn : n < 32) (x : Int32) {i : Nat} (hi : i < 32) : bt (x <<< (nI n &&& 31)) i = (decide (n ≤ i) && bt x (i - n)) := by
  unfold bt
  rw [Int32.toBitVec_shiftLeft]
  show (x.toBitVec <<< ((nI n &&& 31).toBitVec.smod 32).toNat).getLsbD i = _
  rw [s_l n hn, BitVec.getLsbD_shiftLeft]
  rcases Nat.lt_or_ge i n with h | h
  · simp [h, Nat.not_le.mpr h]
  · simp [hi, h, Nat.not_lt.mpr h]
theorem b_ushr (n : Nat) (hn : n < 32) (x : Int32) (i : Nat) : bt ((x.toUInt32 >>> ((nI n).toUInt32 &&& Int32.toUInt32 31)).toInt32) i = bt x (n + i) := by
  show (x.toUInt32 >>> ((nI n).toUInt32 &&& Int32.toUInt32 31)).toBitVec.getLsbD i = x.toUInt32.toBitVec.getLsbD (n + i)
  rw [UInt32.toBitVec_shiftRight]
  show (x.toUInt32.toBitVec >>> (((nI n).toUInt32 &&& Int32.toUInt32 31).toBitVec % 32).toNat).getLsbD i = _
  rw [s_u n hn, BitVec.getLsbD_ushiftRight]
theorem b_sshr (n : Nat) (hn : n < 32) (x : Int32) {i : Nat} (hi : i < 32) : bt (x >>> (nI n &&& 31)) i = if n + i < 32 then bt x (n + i) else bt x 31 := by
  unfold bt
  rw [Int32.toBitVec_shiftRight]
  show (x.toBitVec.sshiftRight ((nI n &&& 31).toBitVec.smod 32).toNat).getLsbD i = _
  rw [s_l n hn, BitVec.getLsbD_sshiftRight, BitVec.msb_eq_getLsbD_last]
  simp [hi]
/-! ===== one bit asked for ===== -/
theorem mt_1 : ∀ i, i < 32 → bt 1 i = decide (i = 0) := by decide +kernel
theorem mt_xv (x : Int32) (n : Nat) (hn : n < 32) : ((x.toUInt32 >>> ((nI n).toUInt32 &&& Int32.toUInt32 31)).toInt32 &&& 1) = if bt x n then 1 else 0 := by
  apply b_ext
  intro i hi
  rw [b_and, b_ushr n hn, mt_1 i hi]
  by_cases h : i = 0
  · subst h
    cases hb : bt x n
    · simp [hb, b_0]
    · simp [hb, mt_1]
  · cases hb : bt x n
    · simp [h, b_0]
    · simp [h, mt_1 i hi]
theorem mt_yv (x : Int32) (n : Nat) (hn : n < 32) : ((x >>> (nI n &&& 31)) &&& 1) = if bt x n then 1 else 0 := by
  apply b_ext
  intro i hi
  rw [b_and, b_sshr n hn x hi, mt_1 i hi]
  by_cases h : i = 0
  · subst h
    cases hb : bt x n
    · simp [hb, b_0, hn]
    · simp [hb, mt_1, hn]
  · cases hb : bt x n
    · simp [h, b_0]
    · simp [h, mt_1 i hi]
theorem mt_x (x : Int32) (n : Nat) (hn : n < 32) : ((x.toUInt32 >>> ((nI n).toUInt32 &&& Int32.toUInt32 31)).toInt32 &&& 1) = 0 ↔ bt x n = false := by
  rw [mt_xv x n hn]
  cases bt x n <;> decide
theorem mt_y (x : Int32) (n : Nat) (hn : n < 32) : ((x >>> (nI n &&& 31)) &&& 1) = 1 ↔ bt x n = true := by
  rw [mt_yv x n hn]
  cases bt x n <;> decide
theorem mt_sh (n : Nat) (hn : n < 32) {i : Nat} (hi : i < 32) : bt ((1 : Int32) <<< (nI n &&& 31)) i = decide (i = n) := by
  rw [b_shl n hn 1 hi]
  by_cases h : n ≤ i
  · rw [mt_1 (i - n) (by omega)]
    by_cases e : i = n
    · subst e; simp
    · have : ¬ i - n = 0 := by omega
      simp [e, this]
  · have : ¬ i = n := by omega
    simp [h, this]
theorem mt_z {x : Int32} : x = 0 ↔ ∀ i, i < 32 → bt x i = false := by
  constructor
  · intro h i _
    rw [h, b_0]
  · intro h
    apply b_ext
    intro i hi
    rw [h i hi, b_0]
theorem mt_u18 (x : Int32) : (x.toUInt32 >>> ((18 : Int32).toUInt32 &&& Int32.toUInt32 31)).toInt32 = 0 ↔ ∀ i, 18 ≤ i → bt x i = false := by
  have e : ∀ i, bt ((x.toUInt32 >>> ((18 : Int32).toUInt32 &&& Int32.toUInt32 31)).toInt32) i = bt x (18 + i) := fun i => b_ushr 18 (by omega) x i
  rw [mt_z]
  constructor
  · intro h i hi
    rcases Nat.lt_or_ge i 32 with z | z
    · have := h (i - 18) (by omega)
      rw [e, show 18 + (i - 18) = i by omega] at this
      exact this
    · exact b_big z
  · intro h i _
    rw [e]
    exact h _ (by omega)
/-- the needs of a flow are all done: no bit of x outside of d -/
theorem mt_sub (x d : Int32) : (x &&& (d ^^^ (-1))) = 0 ↔ ∀ i, i < 32 → bt x i = true → bt d i = true := by
  rw [mt_z]
  constructor
  · intro h i hi hx
    have := h i hi
    rw [b_and, b_xor, b_m1 i hi, hx] at this
    revert this
    cases bt d i <;> simp
  · intro h i hi
    rw [b_and, b_xor, b_m1 i hi]
    cases hx : bt x i
    · simp
    · rw [h i hi hx]; simp
end
section
/-! ===== circles and needs, of relations alone ===== -/
def mp_Cl (D : Nat → Nat → Prop) (S : Nat → Prop) : Prop := ∀ a b, S a → D a b → S b
def mp_Tr (R : Nat → Nat → Prop) : Prop := ∀ a b c, R a b → R b c → R a c
def mp_Le (D R : Nat → Nat → Prop) : Prop := ∀ a b, D a b → R a b
/-- T is the least transitive relation over D -/
def mp_TC (D T : Nat → Nat → Prop) : Prop := mp_Le D T ∧ mp_Tr T ∧ ∀ R, mp_Le D R → mp_Tr R → mp_Le T R
/-- S is the least D-closed set over B -/
def mp_LS (D : Nat → Nat → Prop) (B S : Nat → Prop) : Prop := (∀ a, B a → S a) ∧ mp_Cl D S ∧ ∀ S' : Nat → Prop, (∀ a, B a → S' a) → mp_Cl D S' → ∀ a, S a → S' a
/-- no circle -/
def mp_Ac (D : Nat → Nat → Prop) : Prop := ∃ T, mp_Le D T ∧ mp_Tr T ∧ ∀ a, ¬ T a a
def mp_R (D : Nat → Nat → Prop) : Nat → Nat → Prop := fun a b => ∀ R, mp_Le D R → mp_Tr R → R a b
theorem mp_RTC (D : Nat → Nat → Prop) : mp_TC D (mp_R D) :=
  ⟨fun a b h _ hl _ => hl a b h, fun a b c h1 h2 R hl ht => ht a b c (h1 R hl ht) (h2 R hl ht), fun R hl ht a b h => h R hl ht⟩
theorem mp_needs {D T : Nat → Nat → Prop} {S : Nat → Prop} {a : Nat} (hS : mp_LS D (D a) S) (hT : mp_TC D T) : ∀ b, T a b ↔ S b := by
  intro b
  constructor
  · intro h
    exact (hT.2.2 (fun x y => (x = a → S y) ∧ (S x → S y)) (fun x y d => ⟨fun e => hS.1 y (e ▸ d), fun s => hS.2.1 x y s d⟩) (fun x y z h1 h2 => ⟨fun e => h2.2 (h1.1 e), fun s => h2.2 (h1.2 s)⟩) a b h).1 rfl
  · exact hS.2.2 (fun y => T a y) (fun y h => hT.1 a y h) (fun x y h d => hT.2.1 a x y h (hT.1 x y d)) b
section
variable {D D' T : Nat → Nat → Prop} {B S : Nat → Prop} {f : Nat}
theorem mp_def1 (hne : ∀ a b, a ≠ f → (D' a b ↔ D a b)) (heq : ∀ b, D' f b ↔ B b) (hS : mp_LS D B S) (hT : mp_TC D' T) (h : S f) : T f f := by
  by_cases c : T f f
  · exact c
  · refine hS.2.2 (fun y => T f y) (fun y hy => hT.1 f y ((heq y).mpr hy)) ?_ f h
    intro x y hx d
    by_cases e : x = f
    · exact absurd (e ▸ hx) c
    · exact hT.2.1 f x y hx (hT.1 x y ((hne x y e).mpr d))
theorem mp_def2 (hne : ∀ a b, a ≠ f → (D' a b ↔ D a b)) (heq : ∀ b, D' f b ↔ B b) (hS : mp_LS D B S) (hT : mp_TC D' T) (hA : mp_Ac D) (h : ¬ S f) : (∀ a, ¬ T a a) ∧ (∀ b, T f b ↔ S b) ∧ mp_Ac D' := by
  obtain ⟨P, hP1, hP2, hP3⟩ := hA
  have hQ := mp_RTC D
  have hQi : ∀ a, ¬ mp_R D a a := fun a z => hP3 a (z P hP1 hP2)
  have hSQ : ∀ a b, mp_R D a b → S a → S b := fun a b z => z (fun x y => S x → S y) (fun x y d s => hS.2.1 x y s d) (fun x y z h1 h2 s => h2 (h1 s))
  have key : ∀ a b, T a b → mp_R D a b ∨ ((a = f ∨ mp_R D a f) ∧ S b) := by
    refine hT.2.2 (fun a b => mp_R D a b ∨ ((a = f ∨ mp_R D a f) ∧ S b)) ?_ ?_
    · intro a b d
      by_cases e : a = f
      · exact Or.inr ⟨Or.inl e, hS.1 b ((heq b).mp (e ▸ d))⟩
      · exact Or.inl (hQ.1 a b ((hne a b e).mp d))
    · intro a b c h1 h2
      rcases h1 with h1 | ⟨h1, s1⟩
      · rcases h2 with h2 | ⟨h2, s2⟩
        · exact Or.inl (hQ.2.1 a b c h1 h2)
        · refine Or.inr ⟨Or.inr ?_, s2⟩
          rcases h2 with h2 | h2
          · exact h2 ▸ h1
          · exact hQ.2.1 a b f h1 h2
      · rcases h2 with h2 | ⟨h2, s2⟩
        · exact Or.inr ⟨h1, hSQ b c h2 s1⟩
        · exact Or.inr ⟨h1, s2⟩
  have irr : ∀ a, ¬ T a a := by
    intro a z
    rcases key a a z with z | ⟨z, s⟩
    · exact hQi a z
    · rcases z with z | z
      · exact h (z ▸ s)
      · exact h (hSQ a f z s)
  refine ⟨irr, ?_, ⟨T, hT.1, hT.2.1, irr⟩⟩
  intro b
  constructor
  · intro z
    refine (hT.2.2 (fun x y => (x = f → S y) ∧ (S x → S y)) ?_ ?_ f b z).1 rfl
    · intro x y d
      constructor
      · intro e
        exact hS.1 y ((heq y).mp (e ▸ d))
      · intro s
        by_cases e : x = f
        · exact absurd (e ▸ s) h
        · exact hS.2.1 x y s ((hne x y e).mp d)
    · intro x y z h1 h2
      exact ⟨fun e => h2.2 (h1.1 e), fun s => h2.2 (h1.2 s)⟩
  · refine hS.2.2 (fun y => T f y) (fun y hy => hT.1 f y ((heq y).mpr hy)) ?_ b
    intro x y hx d
    by_cases e : x = f
    · exact absurd (e ▸ hx) (irr f)
    · exact hT.2.1 f x y hx (hT.1 x y ((hne x y e).mpr d))
end
/-! ===== counting ===== -/
def mc_n (s : Nat → Bool) : Nat → Nat
  | 0 => 0
  | n + 1 => mc_n s n + (if s n then 1 else 0)
theorem mc_top (s : Nat → Bool) : ∀ n, mc_n s n ≤ n := by
  intro n
  induction n with
  | zero => exact Nat.le_refl 0
  | succ n ih =>
    show mc_n s n + (if s n then 1 else 0) ≤ n + 1
    split <;> omega
theorem mc_le {s t : Nat → Bool} (h : ∀ i, s i = true → t i = true) : ∀ n, mc_n s n ≤ mc_n t n := by
  intro n
  induction n with
  | zero => exact Nat.le_refl 0
  | succ n ih =>
    show mc_n s n + (if s n then 1 else 0) ≤ mc_n t n + (if t n then 1 else 0)
    have := h n
    cases hs : s n
    · simp; omega
    · simp [this hs, ih]
theorem mc_lt {s t : Nat → Bool} (h : ∀ i, s i = true → t i = true) {j : Nat} (ht : t j = true) (hs : s j = false) : ∀ n, j < n → mc_n s n < mc_n t n := by
  intro n
  induction n with
  | zero => intro z; omega
  | succ n ih =>
    intro hj
    show mc_n s n + (if s n then 1 else 0) < mc_n t n + (if t n then 1 else 0)
    by_cases e : j = n
    · subst e
      have := mc_le h j
      simp [ht, hs]; omega
    · have i1 := ih (by omega)
      have := h n
      cases hs : s n
      · simp; omega
      · simp [this hs, i1]
theorem mc_pos {s : Nat → Bool} {j : Nat} (hs : s j = true) : ∀ n, j < n → 1 ≤ mc_n s n := by
  intro n
  induction n with
  | zero => intro z; omega
  | succ n ih =>
    intro hj
    show 1 ≤ mc_n s n + (if s n then 1 else 0)
    by_cases e : j = n
    · subst e; simp [hs]
    · have := ih (by omega); omega
/-! ===== the component's rounds: one pass, eighteen passes ===== -/
def mx_pass (nd : Nat → Int32) : Nat → Int32 → Int32
  | 0, s => s
  | f + 1, s => if bt (mx_pass nd f s) f = true then mx_pass nd f s ||| nd f else mx_pass nd f s
def mx_cl (nd : Nat → Int32) : Nat → Int32 → Int32
  | 0, s => s
  | r + 1, s => mx_pass nd 18 (mx_cl nd r s)
def mx_D (nd : Nat → Int32) : Nat → Nat → Prop := fun a b => a < 18 ∧ bt (nd a) b = true
theorem mx_mono (nd : Nat → Int32) (s : Int32) : ∀ f i, bt s i = true → bt (mx_pass nd f s) i = true := by
  intro f
  induction f with
  | zero => intro i h; exact h
  | succ f ih =>
    intro i h
    have := ih i h
    show bt (if bt (mx_pass nd f s) f = true then mx_pass nd f s ||| nd f else mx_pass nd f s) i = true
    split
    · rw [b_or, this]; rfl
    · exact this
theorem mx_take (nd : Nat → Int32) (s : Int32) : ∀ f g h, g < f → bt s g = true → bt (nd g) h = true → bt (mx_pass nd f s) h = true := by
  intro f
  induction f with
  | zero => intro g h hg; omega
  | succ f ih =>
    intro g h hg h1 h2
    show bt (if bt (mx_pass nd f s) f = true then mx_pass nd f s ||| nd f else mx_pass nd f s) h = true
    by_cases e : g = f
    · subst e
      rw [if_pos (mx_mono nd s g g h1), b_or, h2]
      simp
    · have := ih g h (by omega) h1 h2
      split
      · rw [b_or, this]; rfl
      · exact this
theorem mx_least (nd : Nat → Int32) (s : Int32) (S : Nat → Prop) (hB : ∀ i, bt s i = true → S i) (hC : mp_Cl (mx_D nd) S) : ∀ f, f ≤ 18 → ∀ i, bt (mx_pass nd f s) i = true → S i := by
  intro f
  induction f with
  | zero => intro _ i h; exact hB i h
  | succ f ih =>
    intro hf i
    show bt (if bt (mx_pass nd f s) f = true then mx_pass nd f s ||| nd f else mx_pass nd f s) i = true → S i
    by_cases c : bt (mx_pass nd f s) f = true
    · rw [if_pos c, b_or]
      intro h
      rcases (Bool.or_eq_true _ _).mp h with h | h
      · exact ih (by omega) i h
      · exact hC f i (ih (by omega) f c) ⟨by omega, h⟩
    · rw [if_neg c]
      exact ih (by omega) i
theorem mx_clMono (nd : Nat → Int32) (s : Int32) : ∀ r i, bt s i = true → bt (mx_cl nd r s) i = true := by
  intro r
  induction r with
  | zero => intro i h; exact h
  | succ r ih => intro i h; exact mx_mono nd _ 18 i (ih i h)
theorem mx_clLeast (nd : Nat → Int32) (s : Int32) (S : Nat → Prop) (hB : ∀ i, bt s i = true → S i) (hC : mp_Cl (mx_D nd) S) : ∀ r i, bt (mx_cl nd r s) i = true → S i := by
  intro r
  induction r with
  | zero => intro i h; exact hB i h
  | succ r ih => intro i h; exact mx_least nd _ S ih hC 18 (Nat.le_refl 18) i h
theorem mx_clIn (nd : Nat → Int32) (s : Int32) (hs : ∀ i, bt s i = true → i < 18) (hn : ∀ a, a < 18 → ∀ i, bt (nd a) i = true → i < 18) : ∀ r i, bt (mx_cl nd r s) i = true → i < 18 :=
  mx_clLeast nd s (fun i => i < 18) hs (fun a b _ d => hn a d.1 b d.2)
theorem mx_grow (nd : Nat → Int32) (s : Int32) (hs : ∀ i, bt s i = true → i < 18) (hn : ∀ a, a < 18 → ∀ i, bt (nd a) i = true → i < 18) : ∀ r, mp_Cl (mx_D nd) (fun i => bt (mx_cl nd r s) i = true) ∨ r + 1 ≤ mc_n (bt (mx_cl nd r s)) 18 := by
  intro r
  induction r with
  | zero =>
    by_cases c : ∃ i, bt s i = true
    · obtain ⟨i, hi⟩ := c
      exact Or.inr (mc_pos hi 18 (hs i hi))
    · exact Or.inl (fun a b h _ => absurd ⟨a, h⟩ c)
  | succ r ih =>
    by_cases c : mp_Cl (mx_D nd) (fun i => bt (mx_cl nd r s) i = true)
    · left
      intro a b ha d
      have ha' := mx_least nd (mx_cl nd r s) (fun i => bt (mx_cl nd r s) i = true) (fun i h => h) c 18 (Nat.le_refl 18) a ha
      exact mx_mono nd _ 18 b (c a b ha' d)
    · right
      have h1 : r + 1 ≤ mc_n (bt (mx_cl nd r s)) 18 := by
        rcases ih with ih | ih
        · exact absurd ih c
        · exact ih
      have h2 : ∃ a b, bt (mx_cl nd r s) a = true ∧ mx_D nd a b ∧ ¬ bt (mx_cl nd r s) b = true := by
        apply Classical.byContradiction
        intro z
        apply c
        intro a b ha d
        apply Classical.byContradiction
        intro y
        exact z ⟨a, b, ha, d, y⟩
      obtain ⟨a, b, ha, d, hb⟩ := h2
      have h3 : mc_n (bt (mx_cl nd r s)) 18 < mc_n (bt (mx_cl nd (r + 1) s)) 18 :=
        mc_lt (fun i h => mx_mono nd _ 18 i h) (j := b) (mx_take nd _ 18 a b d.1 ha d.2) (by cases e : bt (mx_cl nd r s) b <;> simp_all) 18 (hn a d.1 b d.2)
      omega
theorem mx_LS (nd : Nat → Int32) (s : Int32) (hs : ∀ i, bt s i = true → i < 18) (hn : ∀ a, a < 18 → ∀ i, bt (nd a) i = true → i < 18) : mp_LS (mx_D nd) (fun i => bt s i = true) (fun i => bt (mx_cl nd 18 s) i = true) := by
  refine ⟨mx_clMono nd s 18, ?_, fun S hB hC => mx_clLeast nd s S hB hC 18⟩
  rcases mx_grow nd s hs hn 18 with h | h
  · exact h
  · have := mc_top (bt (mx_cl nd 18 s)) 18
    omega
/-! ===== the reference's rounds: Warshall, in place ===== -/
def wy_col (k : Nat) : Nat → (Nat → Int32) → (Nat → Int32)
  | 0, m => m
  | f + 1, m => if bt (wy_col k f m f) k = true then upd (wy_col k f m) f (wy_col k f m f ||| wy_col k f m k) else wy_col k f m
def wy_all : Nat → (Nat → Int32) → (Nat → Int32)
  | 0, m => m
  | k + 1, m => wy_col k 18 (wy_all k m)
theorem wy_colV (k : Nat) (m : Nat → Int32) : ∀ i j, wy_col k i m j = if j < i then (if bt (m j) k = true then m j ||| m k else m j) else m j := by
  intro i
  induction i with
  | zero => intro j; rfl
  | succ i ih =>
    intro j
    have hi : wy_col k i m i = m i := by rw [ih, if_neg (by omega)]
    have hk : wy_col k i m k = m k := by
      rw [ih]
      split
      · split
        · exact b_ext (fun q _ => by rw [b_or, Bool.or_self])
        · rfl
      · rfl
    show (if bt (wy_col k i m i) k = true then upd (wy_col k i m) i (wy_col k i m i ||| wy_col k i m k) else wy_col k i m) j = _
    rw [hi, hk]
    by_cases c : bt (m i) k = true
    · rw [if_pos c]
      show (if j = i then m i ||| m k else wy_col k i m j) = _
      by_cases e : j = i
      · subst e
        rw [if_pos rfl, if_pos (by omega), if_pos c]
      · rw [if_neg e, ih]
        by_cases z : j < i
        · rw [if_pos z, if_pos (show j < i + 1 by omega)]
        · rw [if_neg z, if_neg (show ¬ j < i + 1 by omega)]
    · rw [if_neg c, ih]
      by_cases e : j = i
      · subst e
        rw [if_neg (by omega), if_pos (by omega), if_neg c]
      · by_cases z : j < i
        · rw [if_pos z, if_pos (show j < i + 1 by omega)]
        · rw [if_neg z, if_neg (show ¬ j < i + 1 by omega)]
theorem wy_step (k : Nat) (m : Nat → Int32) {a : Nat} (ha : a < 18) (b : Nat) : bt (wy_col k 18 m a) b = true ↔ (bt (m a) b = true ∨ (bt (m a) k = true ∧ bt (m k) b = true)) := by
  rw [wy_colV, if_pos ha]
  by_cases c : bt (m a) k = true
  · rw [if_pos c, b_or, Bool.or_eq_true]
    exact ⟨fun h => h.elim Or.inl (fun h => Or.inr ⟨c, h⟩), fun h => h.elim Or.inl (fun h => Or.inr h.2)⟩
  · rw [if_neg c]
    exact ⟨Or.inl, fun h => h.elim id (fun h => absurd h.1 c)⟩
theorem wy_tr (m : Nat → Int32) : ∀ k, k ≤ 18 → ∀ a b c, a < 18 → b < k → bt (wy_all k m a) b = true → bt (wy_all k m b) c = true → bt (wy_all k m a) c = true := by
  intro k
  induction k with
  | zero => intro _ a b c _ hb; omega
  | succ k ih =>
    intro hk a b c ha hb h1 h2
    have I := ih (by omega)
    have h1' := (wy_step k (wy_all k m) ha b).mp h1
    have h2' := (wy_step k (wy_all k m) (show b < 18 by omega) c).mp h2
    apply (wy_step k (wy_all k m) ha c).mpr
    by_cases e : b = k
    · subst e
      have u1 : bt (wy_all b m a) b = true := h1'.elim id (fun h => h.1)
      have u2 : bt (wy_all b m b) c = true := h2'.elim id (fun h => h.2)
      exact Or.inr ⟨u1, u2⟩
    · have hb' : b < k := by omega
      rcases h1' with h1' | ⟨p1, p2⟩
      · rcases h2' with h2' | ⟨q1, q2⟩
        · exact Or.inl (I a b c ha hb' h1' h2')
        · exact Or.inr ⟨I a b k ha hb' h1' q1, q2⟩
      · rcases h2' with h2' | ⟨q1, q2⟩
        · exact Or.inr ⟨p1, I k b c (by omega) hb' p2 h2'⟩
        · exact Or.inr ⟨p1, q2⟩
theorem wy_ge (m : Nat → Int32) : ∀ k a b, a < 18 → bt (m a) b = true → bt (wy_all k m a) b = true := by
  intro k
  induction k with
  | zero => intro a b _ h; exact h
  | succ k ih => intro a b ha h; exact (wy_step k (wy_all k m) ha b).mpr (Or.inl (ih a b ha h))
theorem wy_least (m : Nat → Int32) (R : Nat → Nat → Prop) (hl : mp_Le (mx_D m) R) (ht : mp_Tr R) : ∀ k, k ≤ 18 → ∀ a b, a < 18 → bt (wy_all k m a) b = true → R a b := by
  intro k
  induction k with
  | zero => intro _ a b ha h; exact hl a b ⟨ha, h⟩
  | succ k ih =>
    intro hk a b ha h
    rcases (wy_step k (wy_all k m) ha b).mp h with h | ⟨h1, h2⟩
    · exact ih (by omega) a b ha h
    · exact ht a k b (ih (by omega) a k ha h1) (ih (by omega) k b (by omega) h2)
theorem wy_TC (m : Nat → Int32) : mp_TC (mx_D m) (mx_D (wy_all 18 m)) :=
  ⟨fun a b h => ⟨h.1, wy_ge m 18 a b h.1 h.2⟩, fun a b c h1 h2 => ⟨h1.1, wy_tr m 18 (Nat.le_refl 18) a b c h1.1 h2.1 h1.2 h2.2⟩, fun R hl ht a b h => wy_least m R hl ht 18 (Nat.le_refl 18) a b h.1 h.2⟩
end
section
/-! ===== operands, kinds, direct needs ===== -/
def mo_a (op : Int32) : Int32 := op &&& 31
def mo_b (op : Int32) : Int32 := (op >>> ((5 : Int32) &&& 31)) &&& 31
def mo_s (op : Int32) : Int32 := (op >>> ((10 : Int32) &&& 31)) &&& 31
theorem mo_31 (x : Int32) : ∃ j : Nat, j < 32 ∧ x &&& 31 = nI j := by
  refine ⟨x.toBitVec.toNat % 32, Nat.mod_lt _ (by omega), ?_⟩
  apply Int32.toBitVec_inj.mp
  apply BitVec.eq_of_toNat_eq
  rw [Int32.toBitVec_and, BitVec.toNat_and, show (31 : Int32).toBitVec.toNat = 2 ^ 5 - 1 from by decide, Nat.and_two_pow_sub_one_eq_mod]
  show _ = (BitVec.ofNat 32 (x.toBitVec.toNat % 32)).toNat
  rw [BitVec.toNat_ofNat, Nat.mod_eq_of_lt (a := x.toBitVec.toNat % 32)]
  have : x.toBitVec.toNat % 32 < 32 := Nat.mod_lt _ (by omega)
  omega
theorem mo_3 (x : Int32) : ∃ j : Nat, j < 4 ∧ x &&& 3 = nI j := by
  refine ⟨x.toBitVec.toNat % 4, Nat.mod_lt _ (by omega), ?_⟩
  apply Int32.toBitVec_inj.mp
  apply BitVec.eq_of_toNat_eq
  rw [Int32.toBitVec_and, BitVec.toNat_and, show (3 : Int32).toBitVec.toNat = 2 ^ 2 - 1 from by decide, Nat.and_two_pow_sub_one_eq_mod]
  show _ = (BitVec.ofNat 32 (x.toBitVec.toNat % 4)).toNat
  rw [BitVec.toNat_ofNat, Nat.mod_eq_of_lt (a := x.toBitVec.toNat % 4)]
  have : x.toBitVec.toNat % 4 < 4 := Nat.mod_lt _ (by omega)
  omega
theorem mo_shr0 (x : Int32) : x >>> ((0 : Int32) &&& 31) = x := by
  apply b_ext
  intro i hi
  have := b_sshr 0 (by omega) x hi
  rw [show nI 0 = 0 from nI_0] at this
  rw [this, if_pos (by omega), Nat.zero_add]
/-- a kind is one of nine -/
def mk_9 (k : Int32) : Prop := k = 0 ∨ k = 1 ∨ k = 2 ∨ k = 3 ∨ k = 4 ∨ k = 5 ∨ k = 6 ∨ k = 7 ∨ k = 8
theorem mk_of {k : Int32} (h0 : ¬ k < 0) (h8 : k ≤ 8) : mk_9 k := by
  obtain ⟨j, hj, rfl⟩ := nI_of2 (n := 8) (by decide) h0 h8
  have : j = 0 ∨ j = 1 ∨ j = 2 ∨ j = 3 ∨ j = 4 ∨ j = 5 ∨ j = 6 ∨ j = 7 ∨ j = 8 := by omega
  unfold mk_9
  rcases this with rfl | rfl | rfl | rfl | rfl | rfl | rfl | rfl | rfl <;> decide
/-- the one-element set of an operand -/
def mo_1 (x : Int32) : Int32 := (1 : Int32) <<< (x &&& 31)
/-- what a definition needs directly -/
def mv_dr (k op : Int32) : Int32 :=
  if k = 2 ∨ k = 3 ∨ k = 4 ∨ k = 5 then mo_1 (mo_a op) ||| mo_1 (mo_b op)
  else if k = 6 then (mo_1 (mo_a op) ||| mo_1 (mo_b op)) ||| mo_1 (mo_s op)
  else if k = 8 then mo_1 (mo_a op) ||| mo_1 (mo_s op)
  else 0
/-- what a kind names: what it needs, and PRE's operand -/
def mv_nm (k op : Int32) : Int32 := if k = 7 then mo_1 (mo_a op) else mv_dr k op
/-- the operands that the kind names are flows -/
def mv_ok (k op : Int32) : Prop :=
  ((k = 2 ∨ k = 3 ∨ k = 4 ∨ k = 5 ∨ k = 6 ∨ k = 7 ∨ k = 8) → (mo_a op).toNatClampNeg < 18) ∧ ((k = 2 ∨ k = 3 ∨ k = 4 ∨ k = 5 ∨ k = 6) → (mo_b op).toNatClampNeg < 18) ∧ ((k = 6 ∨ k = 8) → (mo_s op).toNatClampNeg < 18)
theorem mo_1b (x : Int32) {i : Nat} (hi : i < 32) : bt (mo_1 (x &&& 31)) i = decide (i = (x &&& 31).toNatClampNeg) := by
  obtain ⟨j, hj, e⟩ := mo_31 x
  rw [e, nI_clamp (by omega)]
  exact mt_sh j hj hi
theorem mo_1a (op : Int32) {i : Nat} (hi : i < 32) : bt (mo_1 (mo_a op)) i = decide (i = (mo_a op).toNatClampNeg) := mo_1b op hi
theorem mo_1bb (op : Int32) {i : Nat} (hi : i < 32) : bt (mo_1 (mo_b op)) i = decide (i = (mo_b op).toNatClampNeg) := mo_1b _ hi
theorem mo_1s (op : Int32) {i : Nat} (hi : i < 32) : bt (mo_1 (mo_s op)) i = decide (i = (mo_s op).toNatClampNeg) := mo_1b _ hi
theorem mo_lt (x : Int32) : (x &&& 31).toNatClampNeg < 32 := by
  obtain ⟨j, hj, e⟩ := mo_31 x
  rw [e, nI_clamp (by omega)]
  exact hj
theorem mo_18 (x : Int32) : (∀ i, 18 ≤ i → bt (mo_1 (x &&& 31)) i = false) ↔ (x &&& 31).toNatClampNeg < 18 := by
  constructor
  · intro h
    rcases Nat.lt_or_ge (x &&& 31).toNatClampNeg 18 with z | z
    · exact z
    · have := h _ z
      rw [mo_1b x (mo_lt x)] at this
      simp at this
  · intro h i hi
    rcases Nat.lt_or_ge i 32 with z | z
    · rw [mo_1b x z]
      exact decide_eq_false (by omega)
    · exact b_big z
theorem mo_or18 (x y : Int32) : (∀ i, 18 ≤ i → bt (x ||| y) i = false) ↔ ((∀ i, 18 ≤ i → bt x i = false) ∧ (∀ i, 18 ≤ i → bt y i = false)) := by
  constructor
  · intro h
    constructor
    · intro i hi
      have := h i hi
      rw [b_or, Bool.or_eq_false_iff] at this
      exact this.1
    · intro i hi
      have := h i hi
      rw [b_or, Bool.or_eq_false_iff] at this
      exact this.2
  · intro h i hi
    rw [b_or, h.1 i hi, h.2 i hi]; rfl
theorem mv_nmok {k op : Int32} (hk : mk_9 k) : (∀ i, 18 ≤ i → bt (mv_nm k op) i = false) ↔ mv_ok k op := by
  have hz : (∀ i, 18 ≤ i → bt (0 : Int32) i = false) := fun i _ => b_0 i
  have ea : (∀ i, 18 ≤ i → bt (mo_1 (mo_a op)) i = false) ↔ (mo_a op).toNatClampNeg < 18 := mo_18 op
  have eb : (∀ i, 18 ≤ i → bt (mo_1 (mo_b op)) i = false) ↔ (mo_b op).toNatClampNeg < 18 := mo_18 _
  have es : (∀ i, 18 ≤ i → bt (mo_1 (mo_s op)) i = false) ↔ (mo_s op).toNatClampNeg < 18 := mo_18 _
  unfold mv_nm mv_dr mv_ok
  rcases hk with rfl | rfl | rfl | rfl | rfl | rfl | rfl | rfl | rfl
  · rw [if_neg (by decide), if_neg (by decide), if_neg (by decide), if_neg (by decide)]
    exact ⟨fun _ => ⟨fun z => absurd z (by decide), fun z => absurd z (by decide), fun z => absurd z (by decide)⟩, fun _ => hz⟩
  · rw [if_neg (by decide), if_neg (by decide), if_neg (by decide), if_neg (by decide)]
    exact ⟨fun _ => ⟨fun z => absurd z (by decide), fun z => absurd z (by decide), fun z => absurd z (by decide)⟩, fun _ => hz⟩
  · rw [if_neg (by decide), if_pos (by decide), mo_or18, ea, eb]
    exact ⟨fun h => ⟨fun _ => h.1, fun _ => h.2, fun z => absurd z (by decide)⟩, fun h => ⟨h.1 (by decide), h.2.1 (by decide)⟩⟩
  · rw [if_neg (by decide), if_pos (by decide), mo_or18, ea, eb]
    exact ⟨fun h => ⟨fun _ => h.1, fun _ => h.2, fun z => absurd z (by decide)⟩, fun h => ⟨h.1 (by decide), h.2.1 (by decide)⟩⟩
  · rw [if_neg (by decide), if_pos (by decide), mo_or18, ea, eb]
    exact ⟨fun h => ⟨fun _ => h.1, fun _ => h.2, fun z => absurd z (by decide)⟩, fun h => ⟨h.1 (by decide), h.2.1 (by decide)⟩⟩
  · rw [if_neg (by decide), if_pos (by decide), mo_or18, ea, eb]
    exact ⟨fun h => ⟨fun _ => h.1, fun _ => h.2, fun z => absurd z (by decide)⟩, fun h => ⟨h.1 (by decide), h.2.1 (by decide)⟩⟩
  · rw [if_neg (by decide), if_neg (by decide), if_pos (by decide), mo_or18, mo_or18, ea, eb, es]
    exact ⟨fun h => ⟨fun _ => h.1.1, fun _ => h.1.2, fun _ => h.2⟩, fun h => ⟨⟨h.1 (by decide), h.2.1 (by decide)⟩, h.2.2 (by decide)⟩⟩
  · rw [if_pos (by decide), ea]
    exact ⟨fun h => ⟨fun _ => h, fun z => absurd z (by decide), fun z => absurd z (by decide)⟩, fun h => h.1 (by decide)⟩
  · rw [if_neg (by decide), if_neg (by decide), if_neg (by decide), if_pos (by decide), mo_or18, ea, es]
    exact ⟨fun h => ⟨fun _ => h.1, fun z => absurd z (by decide), fun _ => h.2⟩, fun h => ⟨h.1 (by decide), h.2.2 (by decide)⟩⟩
theorem mv_drIn {k op : Int32} (hk : mk_9 k) (ho : mv_ok k op) : ∀ i, bt (mv_dr k op) i = true → i < 18 := by
  intro i hi
  rcases Nat.lt_or_ge i 18 with z | z
  · exact z
  · have h := (mv_nmok hk).mpr ho i z
    unfold mv_nm at h
    by_cases e : k = 7
    · subst e
      unfold mv_dr at hi
      rw [if_neg (by decide), if_neg (by decide), if_neg (by decide), b_0] at hi
      exact absurd hi (by decide)
    · rw [if_neg e] at h
      rw [h] at hi
      exact absurd hi (by decide)
/-! ===== the value of a flow in an instant ===== -/
def mv_val (k op c bg : Int32) (inp last now : Nat → Int32) (f : Nat) : Int32 :=
  if k = 0 then inp (c &&& 3).toNatClampNeg
  else if k = 1 then c
  else if k = 2 then now (mo_a op).toNatClampNeg + now (mo_b op).toNatClampNeg
  else if k = 3 then now (mo_a op).toNatClampNeg - now (mo_b op).toNatClampNeg
  else if k = 4 then now (mo_a op).toNatClampNeg * now (mo_b op).toNatClampNeg
  else if k = 5 then (if now (mo_a op).toNatClampNeg < now (mo_b op).toNatClampNeg then 1 else 0)
  else if k = 6 then (if now (mo_s op).toNatClampNeg = 0 then now (mo_b op).toNatClampNeg else now (mo_a op).toNatClampNeg)
  else if k = 7 then (if bg = 0 then c else last (mo_a op).toNatClampNeg)
  else (if now (mo_s op).toNatClampNeg = 0 then (if bg = 0 then c else last f) else now (mo_a op).toNatClampNeg)
/-! ===== filling an array from its beginning ===== -/
def mf_cp (n : Nat) (s d : Nat → Int32) : Nat → Int32 := fun j => if j < n then s j else d j
theorem mf_0 (s d : Nat → Int32) : mf_cp 0 s d = d := rfl
theorem mf_s (n : Nat) (s d : Nat → Int32) : upd (mf_cp n s d) n (s n) = mf_cp (n + 1) s d := by
  funext j
  show (if j = n then s n else if j < n then s j else d j) = if j < n + 1 then s j else d j
  by_cases e : j = n
  · subst e
    rw [if_pos rfl, if_pos (by omega)]
  · by_cases z : j < n
    · rw [if_neg e, if_pos z, if_pos (show j < n + 1 by omega)]
    · rw [if_neg e, if_neg z, if_neg (show ¬ j < n + 1 by omega)]
theorem mf_lt {n j : Nat} (s d : Nat → Int32) (h : j < n) : mf_cp n s d j = s j := if_pos h
theorem mf_ge {n j : Nat} (s d : Nat → Int32) (h : ¬ j < n) : mf_cp n s d j = d j := if_neg h
/-! ===== one instant: the set of the flows done, and their values ===== -/
section
variable (nd : Nat → Int32) (val : (Nat → Int32) → Nat → Int32)
def mi_rd (d : Int32) (f : Nat) : Prop := (nd f &&& (d ^^^ (-1))) = 0 ∧ bt d f = false
noncomputable def mi_row (p : Int32 × (Nat → Int32)) (f : Nat) : Int32 × (Nat → Int32) :=
  if nd f &&& (p.1 ^^^ (-1)) = 0 ∧ bt p.1 f = false then (p.1 ||| (1 : Int32) <<< (nI f &&& 31), upd p.2 f (val p.2 f)) else p
noncomputable def mi_pass : Nat → Int32 × (Nat → Int32) → Int32 × (Nat → Int32)
  | 0, p => p
  | f + 1, p => mi_row nd val (mi_pass f p) f
noncomputable def mi_all : Nat → Int32 × (Nat → Int32) → Int32 × (Nat → Int32)
  | 0, p => p
  | r + 1, p => mi_pass nd val 18 (mi_all r p)
theorem mi_t {p : Int32 × (Nat → Int32)} {f : Nat} (h1 : nd f &&& (p.1 ^^^ (-1)) = 0) (h2 : bt p.1 f = false) : mi_row nd val p f = (p.1 ||| (1 : Int32) <<< (nI f &&& 31), upd p.2 f (val p.2 f)) := if_pos ⟨h1, h2⟩
theorem mi_f1 {p : Int32 × (Nat → Int32)} {f : Nat} (h : ¬ nd f &&& (p.1 ^^^ (-1)) = 0) : mi_row nd val p f = p := if_neg (fun z => h z.1)
theorem mi_f2 {p : Int32 × (Nat → Int32)} {f : Nat} (h : bt p.1 f = true) : mi_row nd val p f = p := if_neg (fun z => by rw [h] at z; exact absurd z.2 (by decide))
end
end
section
/-! ===== small facts for both sides ===== -/
theorem mh_ge {j : Nat} (h : j < 18) : ¬ (18 : Int32) ≤ nI j := nI_ge (b := 18) h (by decide)
theorem mh_18 : (18 : Int32) ≤ nI 18 := by decide
theorem mh_in {j : Nat} (h : j < 18) : vp_in (nI j) 18 := vp_in_nI h (by decide)
theorem mh_in32 {j : Nat} (h : j < 18) : vp_in (nI j) 32 := vp_in_nI (by omega) (by decide)
theorem mh_cl {j : Nat} (h : j < 18) : (nI j).toNatClampNeg = j := nI_clamp (by omega)
theorem mh_b0 : vp_nar .boolean 0 = 0 := by decide
theorem mh_b1 : vp_nar .boolean 1 = 1 := by decide
theorem mo_in (x : Int32) : vp_in (x &&& 31) 32 := by
  obtain ⟨j, hj, e⟩ := mo_31 x
  rw [e]
  exact vp_in_nI hj (by decide)
theorem mo_in3 (x : Int32) : vp_in (x &&& 3) 4 := by
  obtain ⟨j, hj, e⟩ := mo_3 x
  rw [e]
  exact vp_in_nI hj (by decide)
/-- the number of a set's flows -/
def ms_n (x : Int32) : Nat → Int32
  | 0 => 0
  | n + 1 => ms_n x n + (if bt x n then 1 else 0)
/-! ===== the component's private methods ===== -/
theorem xw_con {post : Int32 → Prop} {s : Int32} {n : Nat} (hn : n < 18) (h0 : bt s n = false → post 0) (h1 : bt s n = true → post 1) : wpX_contains post s (nI n) := by
  unfold wpX_contains
  refine br_c (fun h => h0 ((mt_x s n (by omega)).mp h)) (fun h => h1 ?_)
  cases e : bt s n
  · exact absurd ((mt_x s n (by omega)).mpr e) h
  · rfl
theorem xw_size4 (post : Int32 → Prop) (s : Int32) (h : post (ms_n s 18)) : ∀ d j, j + d = 18 → wX_sizeOf_4 post s (d + 1) (ms_n s j) (nI j) := by
  intro d
  induction d with
  | zero =>
    intro j hj
    obtain rfl : j = 18 := by omega
    exact br_t mh_18 h
  | succ d ih =>
    intro j hj
    refine br_f (mh_ge (by omega)) (nm_r (e' := ms_n s (j + 1)) ?_ (nm_r (nI_1 j) (ih (j + 1) (by omega))))
    rw [mt_xv s j (by omega)]
    rfl
theorem xw_size (post : Int32 → Prop) (s : Int32) (h : post (ms_n s 18)) : wpX_sizeOf post s := ⟨19, xw_size4 post s h 18 0 rfl⟩
theorem xw_named (post : Int32 → Prop) (k op : Int32) (hk : mk_9 k) (h : post (mv_nm k op)) : wpX_namedOperands post k op := by
  unfold wpX_namedOperands wpX_operandA wpX_operandB wpX_operandS
  refine nm_e (nm_e (nm_e ?_))
  unfold mv_nm mv_dr at h
  rcases hk with rfl | rfl | rfl | rfl | rfl | rfl | rfl | rfl | rfl
  · rw [if_neg (by decide), if_neg (by decide), if_neg (by decide), if_neg (by decide)] at h
    exact br_t (by decide) h
  · rw [if_neg (by decide), if_neg (by decide), if_neg (by decide), if_neg (by decide)] at h
    exact br_t (by decide) h
  · rw [if_neg (by decide), if_pos (by decide)] at h
    exact br_f (by decide) (br_f (by decide) (br_t rfl h))
  · rw [if_neg (by decide), if_pos (by decide)] at h
    exact br_f (by decide) (br_f (by decide) (br_f (by decide) (br_t rfl h)))
  · rw [if_neg (by decide), if_pos (by decide)] at h
    exact br_f (by decide) (br_f (by decide) (br_f (by decide) (br_f (by decide) (br_t rfl h))))
  · rw [if_neg (by decide), if_pos (by decide)] at h
    exact br_f (by decide) (br_f (by decide) (br_f (by decide) (br_f (by decide) (br_f (by decide) (br_t rfl h)))))
  · rw [if_neg (by decide), if_neg (by decide), if_pos (by decide)] at h
    exact br_f (by decide) (br_f (by decide) (br_f (by decide) (br_f (by decide) (br_f (by decide) (br_f (by decide) (br_t rfl h))))))
  · rw [if_pos (by decide)] at h
    exact br_f (by decide) (br_f (by decide) (br_f (by decide) (br_f (by decide) (br_f (by decide) (br_f (by decide) (br_f (by decide) (br_t rfl h)))))))
  · rw [if_neg (by decide), if_neg (by decide), if_neg (by decide), if_pos (by decide)] at h
    exact br_f (by decide) (br_f (by decide) (br_f (by decide) (br_f (by decide) (br_f (by decide) (br_f (by decide) (br_f (by decide) (br_f (by decide) (br_t rfl h))))))))
section
variable (fw : Int32) (kn op cs ne be inp la nw : Nat → Int32)
theorem xw_13 (post : Int32 → Prop) (J4 : Int32 → Int32 → Prop) (x3 s : Int32) (hJ : J4 (mx_pass ne 18 s) (x3 + 1)) : ∀ d j, j + d = 18 → wX_withTheirNeeds_13 post J4 x3 fw kn op cs ne be inp la nw (d + 1) (mx_pass ne j s) (nI j) := by
  intro d
  induction d with
  | zero =>
    intro j hj
    obtain rfl : j = 18 := by omega
    exact br_t mh_18 (nm_e hJ)
  | succ d ih =>
    intro j hj
    have I := ih (j + 1) (by omega)
    refine br_f (mh_ge (by omega)) (xw_con (by omega) (fun c => br_t rfl (nm_r (nI_1 j) ?_)) (fun c => br_f (by decide) ⟨mh_in (by omega), nm_r (e' := mx_pass ne (j + 1) s) ?_ (nm_r (nI_1 j) I)⟩))
    · rw [show mx_pass ne (j + 1) s = mx_pass ne j s from if_neg (by rw [c]; decide)] at I
      exact I
    · rw [mh_cl (by omega)]
      exact (if_pos c).symm
theorem xw_4 (post : Int32 → Prop) (s : Int32) (h : post (mx_cl ne 18 s)) : ∀ d r, r + d = 18 → wX_withTheirNeeds_4 post fw kn op cs ne be inp la nw (d + 1) (mx_cl ne r s) (nI r) := by
  intro d
  induction d with
  | zero =>
    intro j hj
    obtain rfl : j = 18 := by omega
    exact br_t mh_18 h
  | succ d ih =>
    intro r hr
    refine br_f (mh_ge (by omega)) ⟨19, xw_13 fw kn op cs ne be inp la nw post _ (nI r) (mx_cl ne r s) ?_ 18 0 rfl⟩
    rw [nI_1]
    exact ih (r + 1) (by omega)
theorem xw_needs (post : Int32 → Prop) (s : Int32) (h : post (mx_cl ne 18 s)) : wpX_withTheirNeeds post (fw, kn, op, cs, ne, be, inp, la, nw) s :=
  ⟨19, xw_4 fw kn op cs ne be inp la nw post s h 18 0 rfl⟩
theorem xw_val (post : Int32 → Prop) (f : Nat) (hf : f < 18) (hk : mk_9 (kn f)) (h : post (mv_val (kn f) (op f) (cs f) (be f) inp la nw f)) : wpX_valueByDefinition post (fw, kn, op, cs, ne, be, inp, la, nw) (nI f) := by
  have hi := mh_in hf
  have h32 := mh_in32 hf
  have ec := mh_cl hf
  unfold wpX_valueByDefinition wpX_operandA wpX_operandB wpX_operandS
  dsimp only
  rw [ec]
  refine ⟨hi, hi, hi, hi, nm_e ⟨hi, nm_e ?_⟩⟩
  revert h
  unfold mv_val mo_a mo_b mo_s
  generalize kn f = k at hk
  rcases hk with rfl | rfl | rfl | rfl | rfl | rfl | rfl | rfl | rfl <;> intro h
  · rw [if_pos (by decide)] at h
    exact br_f (by decide) (br_f (by decide) (br_t rfl ⟨mo_in3 _, h⟩))
  · rw [if_neg (by decide), if_pos (by decide)] at h
    exact br_f (by decide) (br_f (by decide) (br_f (by decide) (br_t rfl h)))
  · rw [if_neg (by decide), if_neg (by decide), if_pos (by decide)] at h
    exact br_f (by decide) (br_f (by decide) (br_f (by decide) (br_f (by decide) (br_t rfl ⟨mo_in _, mo_in _, h⟩))))
  · rw [if_neg (by decide), if_neg (by decide), if_neg (by decide), if_pos (by decide)] at h
    exact br_f (by decide) (br_f (by decide) (br_f (by decide) (br_f (by decide) (br_f (by decide) (br_t rfl ⟨mo_in _, mo_in _, h⟩)))))
  · rw [if_neg (by decide), if_neg (by decide), if_neg (by decide), if_neg (by decide), if_pos (by decide)] at h
    exact br_f (by decide) (br_f (by decide) (br_f (by decide) (br_f (by decide) (br_f (by decide) (br_f (by decide) (br_t rfl ⟨mo_in _, mo_in _, h⟩))))))
  · rw [if_neg (by decide), if_neg (by decide), if_neg (by decide), if_neg (by decide), if_neg (by decide), if_pos (by decide)] at h
    refine br_f (by decide) (br_f (by decide) (br_f (by decide) (br_f (by decide) (br_f (by decide) (br_f (by decide) (br_f (by decide) (br_t rfl ⟨mo_in _, mo_in _, br_c (fun c => ?_) (fun c => ?_)⟩)))))))
    · rw [if_neg (Int32.not_lt.mpr c)] at h
      exact h
    · rw [if_pos (Int32.not_le.mp c)] at h
      exact h
  · rw [if_neg (by decide), if_neg (by decide), if_neg (by decide), if_neg (by decide), if_neg (by decide), if_neg (by decide), if_pos (by decide)] at h
    refine br_f (by decide) (br_f (by decide) (br_f (by decide) (br_f (by decide) (br_f (by decide) (br_f (by decide) (br_f (by decide) (br_f (by decide) (br_t rfl ⟨mo_in _, br_c (fun c => ⟨mo_in _, ?_⟩) (fun c => ⟨mo_in _, ?_⟩)⟩))))))))
    · rw [if_pos c] at h
      exact h
    · rw [if_neg c] at h
      exact h
  · rw [if_neg (by decide), if_neg (by decide), if_neg (by decide), if_neg (by decide), if_neg (by decide), if_neg (by decide), if_neg (by decide), if_pos (by decide)] at h
    refine br_f (by decide) (br_f (by decide) (br_f (by decide) (br_f (by decide) (br_f (by decide) (br_f (by decide) (br_f (by decide) (br_f (by decide) (br_f (by decide) (br_t rfl ⟨hi, br_c (fun c => ?_) (fun c => ⟨mo_in _, ?_⟩)⟩)))))))))
    · rw [if_pos c] at h
      exact h
    · rw [if_neg c] at h
      exact h
  · rw [if_neg (by decide), if_neg (by decide), if_neg (by decide), if_neg (by decide), if_neg (by decide), if_neg (by decide), if_neg (by decide), if_neg (by decide)] at h
    refine br_f (by decide) (br_f (by decide) (br_f (by decide) (br_f (by decide) (br_f (by decide) (br_f (by decide) (br_f (by decide) (br_f (by decide) (br_f (by decide) (br_f (by decide) (br_t rfl ⟨mo_in _, br_c (fun c => ⟨hi, br_c (fun c2 => ?_) (fun c2 => ⟨h32, ?_⟩)⟩) (fun c => ⟨mo_in _, ?_⟩)⟩))))))))))
    · rw [if_pos c, if_pos c2] at h
      exact h
    · rw [if_pos c, if_neg c2] at h
      exact h
    · rw [if_neg c] at h
      exact h
end
end
section
/-! ===== the component's instant ===== -/
section
variable (fw : Int32) (kn op cs ne be inp la : Nat → Int32)
def xi_v : (Nat → Int32) → Nat → Int32 := fun now f => mv_val (kn f) (op f) (cs f) (be f) inp la now f
theorem xi_12 (post : SX → Prop) (J4 : Int32 → Int32 → (Nat → Int32) → (Nat → Int32) → (Nat → Int32) → (Nat → Int32) → (Nat → Int32) → (Nat → Int32) → (Nat → Int32) → (Nat → Int32) → Prop) (x2 : Int32) (hk : ∀ j, j < 18 → mk_9 (kn j)) (p : Int32 × (Nat → Int32)) (hJ : J4 (mi_pass ne (xi_v kn op cs be inp la) 18 p).1 (x2 + 1) kn op cs ne be inp la (mi_pass ne (xi_v kn op cs be inp la) 18 p).2) : ∀ d j, j + d = 18 → wX_workOutInstant_12 post J4 x2 fw (d + 1) (mi_pass ne (xi_v kn op cs be inp la) j p).1 (nI j) kn op cs ne be inp la (mi_pass ne (xi_v kn op cs be inp la) j p).2 := by
  intro d
  induction d with
  | zero =>
    intro j hj
    obtain rfl : j = 18 := by omega
    exact br_t mh_18 (nm_e hJ)
  | succ d ih =>
    intro j hj
    have hj18 : j < 18 := by omega
    have I := ih (j + 1) (by omega)
    have eR : mi_pass ne (xi_v kn op cs be inp la) (j + 1) p = mi_row ne (xi_v kn op cs be inp la) (mi_pass ne (xi_v kn op cs be inp la) j p) j := rfl
    revert I
    rw [eR]
    generalize mi_pass ne (xi_v kn op cs be inp la) j p = q
    intro I
    refine br_f (mh_ge hj18) ⟨mh_in hj18, br_c (fun c => ?_) (fun c => ?_)⟩
    · rw [mh_cl hj18] at c
      refine br_f (by decide) (xw_con hj18 (fun b => br_t rfl ?_) (fun b => br_f (by decide) (nm_r (nI_1 j) ?_)))
      · refine xw_val fw kn op cs ne be inp la q.2 _ j hj18 (hk j hj18) ⟨mh_in32 hj18, nm_e (nm_e (nm_r (nI_1 j) ?_))⟩
        rw [mi_t ne _ c b] at I
        rw [mh_cl hj18]
        exact I
      · rw [mi_f2 ne _ b] at I
        exact I
    · rw [mh_cl hj18] at c
      refine br_t rfl (nm_r (nI_1 j) ?_)
      rw [mi_f1 ne _ c] at I
      exact I
theorem xi_4 (post : SX → Prop) (hk : ∀ j, j < 18 → mk_9 (kn j)) (p : Int32 × (Nat → Int32)) (h : post (fw, kn, op, cs, ne, be, inp, la, (mi_all ne (xi_v kn op cs be inp la) 18 p).2)) : ∀ d r, r + d = 18 → wX_workOutInstant_4 post fw (d + 1) (mi_all ne (xi_v kn op cs be inp la) r p).1 (nI r) kn op cs ne be inp la (mi_all ne (xi_v kn op cs be inp la) r p).2 := by
  intro d
  induction d with
  | zero =>
    intro j hj
    obtain rfl : j = 18 := by omega
    exact br_t mh_18 h
  | succ d ih =>
    intro r hr
    refine br_f (mh_ge (by omega)) ⟨19, xi_12 fw kn op cs ne be inp la post _ (nI r) hk (mi_all ne (xi_v kn op cs be inp la) r p) ?_ 18 0 rfl⟩
    rw [nI_1]
    exact ih (r + 1) (by omega)
/-- the values of the next instant -/
noncomputable def xi_p (nw : Nat → Int32) : Int32 × (Nat → Int32) := mi_all ne (xi_v kn op cs be inp la) 18 (0, nw)
theorem xi_work (nw : Nat → Int32) (post : SX → Prop) (hk : ∀ j, j < 18 → mk_9 (kn j)) (h : post (fw, kn, op, cs, ne, be, inp, la, (xi_p kn op cs ne be inp la nw).2)) : wpX_workOutInstant post (fw, kn, op, cs, ne, be, inp, la, nw) :=
  ⟨19, xi_4 fw kn op cs ne be inp la post hk (0, nw) h 18 0 rfl⟩
theorem xi_k2 (nw : Nat → Int32) (post : SX → Prop) (h : post (fw + 1, kn, op, cs, ne, mf_cp 18 (fun _ => 1) be, inp, mf_cp 18 nw la, nw)) : ∀ d j, j + d = 18 → wX_keepInstant_2 post fw (d + 1) (nI j) kn op cs ne (mf_cp j (fun _ => 1) be) inp (mf_cp j nw la) nw := by
  intro d
  induction d with
  | zero =>
    intro j hj
    obtain rfl : j = 18 := by omega
    exact br_t mh_18 (nm_e h)
  | succ d ih =>
    intro j hj
    have hj18 : j < 18 := by omega
    have I := ih (j + 1) (by omega)
    refine br_f (mh_ge hj18) ⟨mh_in32 hj18, mh_in32 hj18, nm_r (e' := mf_cp (j + 1) nw la) ?_ ⟨mh_in hj18, nm_r (e' := mf_cp (j + 1) (fun _ => 1) be) ?_ (nm_r (nI_1 j) I)⟩⟩
    · rw [mh_cl hj18]
      exact mf_s j nw la
    · rw [mh_cl hj18, mh_b1]
      exact mf_s j (fun _ => 1) be
theorem xi_keep (nw : Nat → Int32) (post : SX → Prop) (h : post (fw + 1, kn, op, cs, ne, mf_cp 18 (fun _ => 1) be, inp, mf_cp 18 nw la, nw)) : wpX_keepInstant post (fw, kn, op, cs, ne, be, inp, la, nw) :=
  ⟨19, xi_k2 fw kn op cs ne be inp la nw post h 18 0 rfl⟩
theorem xi_r7 (nw : Nat → Int32) (post : SX → Prop) (h : post (fw, kn, op, cs, ne, mf_cp 18 (fun _ => 0) be, inp, mf_cp 18 (fun _ => 0) la, nw)) : ∀ d j, j + d = 18 → wX_reset_7 post fw (d + 1) (nI j) kn op cs ne (mf_cp j (fun _ => 0) be) inp (mf_cp j (fun _ => 0) la) nw := by
  intro d
  induction d with
  | zero =>
    intro j hj
    obtain rfl : j = 18 := by omega
    exact br_t mh_18 h
  | succ d ih =>
    intro j hj
    have hj18 : j < 18 := by omega
    have I := ih (j + 1) (by omega)
    refine br_f (mh_ge hj18) ⟨mh_in32 hj18, nm_r (e' := mf_cp (j + 1) (fun _ => 0) la) ?_ ⟨mh_in hj18, nm_r (e' := mf_cp (j + 1) (fun _ => 0) be) ?_ (nm_r (nI_1 j) I)⟩⟩
    · rw [mh_cl hj18]
      exact mf_s j (fun _ => 0) la
    · rw [mh_cl hj18, mh_b0]
      exact mf_s j (fun _ => 0) be
theorem xi_reset (nw : Nat → Int32) (post : SX → Prop) (h : post (0, kn, op, cs, ne, mf_cp 18 (fun _ => 0) be, inp, mf_cp 18 (fun _ => 0) la, nw)) : wpX_reset post (fw, kn, op, cs, ne, be, inp, la, nw) :=
  ⟨19, xi_r7 0 kn op cs ne be inp la nw post h 18 0 rfl⟩
theorem xi_i69 (nw : Nat → Int32) (post : SX → Prop) (h : post (fw, mf_cp 18 (fun _ => 1) kn, op, cs, ne, be, inp, la, nw)) : ∀ d j, j + d = 18 → wX_init_69 post fw (d + 1) (nI j) (mf_cp j (fun _ => 1) kn) op cs ne be inp la nw := by
  intro d
  induction d with
  | zero =>
    intro j hj
    obtain rfl : j = 18 := by omega
    exact br_t mh_18 h
  | succ d ih =>
    intro j hj
    have hj18 : j < 18 := by omega
    have I := ih (j + 1) (by omega)
    refine br_f (mh_ge hj18) ⟨mh_in hj18, nm_r (e' := mf_cp (j + 1) (fun _ => 1) kn) ?_ (nm_r (nI_1 j) I)⟩
    rw [mh_cl hj18]
    exact mf_s j (fun _ => 1) kn
end
theorem xi_init (post : SX → Prop) (h : post (0, mf_cp 18 (fun _ => 1) (fun _ => 0), (fun _ => 0), (fun _ => 0), (fun _ => 0), (fun _ => 0), (fun _ => 0), (fun _ => 0), (fun _ => 0))) : wpX_init post :=
  ⟨19, xi_i69 0 (fun _ => 0) (fun _ => 0) (fun _ => 0) (fun _ => 0) (fun _ => 0) (fun _ => 0) (fun _ => 0) (fun _ => 0) post h 18 0 rfl⟩
/-! ===== a flow, or none ===== -/
theorem fl_c (x : Int32) : (∃ f : Nat, f < 18 ∧ x = nI f) ∨ (x < 0 ∨ (¬ x < 0 ∧ (18 : Int32) ≤ x ∧ ¬ x ≤ 17)) := by
  by_cases h0 : x < 0
  · exact Or.inr (Or.inl h0)
  · obtain ⟨j, hj, rfl⟩ := nI_of h0
    rcases Nat.lt_or_ge j 18 with z | z
    · exact Or.inl ⟨j, z, rfl⟩
    · refine Or.inr (Or.inr ⟨h0, ?_, ?_⟩)
      · exact (nI_leI (a := 18) (by decide) hj).mpr z
      · intro y
        have := (nI_leI (b := 17) hj (by decide)).mp y
        omega
def fl_b (x : Int32) : Prop := x < 0 ∨ (¬ x < 0 ∧ (18 : Int32) ≤ x ∧ ¬ x ≤ 17)
theorem fl_x1 {post : Int32 → Prop} {f : Nat} (hf : f < 18) (h : post 1) : wpX_isFlow post (nI f) :=
  br_f (nI_pos (by omega)) (br_f (mh_ge hf) h)
theorem fl_x0 {post : Int32 → Prop} {x : Int32} (hx : fl_b x) (h : post 0) : wpX_isFlow post x := by
  rcases hx with z | ⟨z, y, _⟩
  · exact br_t z h
  · exact br_f z (br_t y h)
theorem fl_y0 {post : Int32 → Prop} {v : SY} {f : Nat} (hf : f < 18) (h : post 0) : wpY_bad post v (nI f) := by
  obtain ⟨a, b, c, d, e, g, i, j, k, l⟩ := v
  exact br_f (nI_pos (by omega)) (br_t (nI_le (b := 17) (by omega) (by decide)) h)
theorem fl_y1 {post : Int32 → Prop} {v : SY} {x : Int32} (hx : fl_b x) (h : post 1) : wpY_bad post v x := by
  obtain ⟨a, b, c, d, e, g, i, j, k, l⟩ := v
  rcases hx with z | ⟨z, _, y⟩
  · exact br_t z h
  · exact br_f z (br_f y h)
end
section
/-! ===== the reference's private methods ===== -/
section
variable (fw : Int32) (kn op cs fi inp la nw ha nq : Nat → Int32)
theorem yw_direct (post : Int32 → Prop) (k o : Int32) (hk : mk_9 k) (h : post (mv_dr k o)) : wpY_direct post (fw, kn, op, cs, fi, inp, la, nw, ha, nq) k o := by
  unfold mv_dr at h
  unfold wpY_direct wpY_namesB
  dsimp only
  rcases hk with rfl | rfl | rfl | rfl | rfl | rfl | rfl | rfl | rfl
  · rw [if_neg (by decide), if_neg (by decide), if_neg (by decide)] at h
    exact br_t (by decide) h
  · rw [if_neg (by decide), if_neg (by decide), if_neg (by decide)] at h
    exact br_t (by decide) h
  · rw [if_pos (by decide)] at h
    exact br_f (by decide) (br_f (by decide) (nm_e (br_f (by decide) (br_f (by decide) (br_f (by decide) (nm_e (br_f (by decide) (br_f (by decide) (br_t rfl h)))))))))
  · rw [if_pos (by decide)] at h
    exact br_f (by decide) (br_f (by decide) (nm_e (br_f (by decide) (br_f (by decide) (br_f (by decide) (nm_e (br_f (by decide) (br_f (by decide) (br_t rfl h)))))))))
  · rw [if_pos (by decide)] at h
    exact br_f (by decide) (br_f (by decide) (nm_e (br_f (by decide) (br_f (by decide) (br_f (by decide) (nm_e (br_f (by decide) (br_f (by decide) (br_t rfl h)))))))))
  · rw [if_pos (by decide)] at h
    exact br_f (by decide) (br_f (by decide) (nm_e (br_f (by decide) (br_f (by decide) (br_f (by decide) (nm_e (br_f (by decide) (br_f (by decide) (br_t rfl h)))))))))
  · rw [if_neg (by decide), if_pos (by decide)] at h
    exact br_f (by decide) (br_f (by decide) (nm_e (br_f (by decide) (br_f (by decide) (br_f (by decide) (nm_e (br_t rfl (br_f (by decide) (nm_e h)))))))))
  · rw [if_neg (by decide), if_neg (by decide), if_neg (by decide)] at h
    exact br_f (by decide) (br_t rfl h)
  · rw [if_neg (by decide), if_neg (by decide), if_pos (by decide)] at h
    exact br_f (by decide) (br_f (by decide) (nm_e (br_f (by decide) (br_t (by decide) (br_t rfl (br_f (by decide) (br_t rfl (br_f (by decide) (nm_e h)))))))))
/-! the needs of all, by rounds -/
theorem yw_46 (post : SY → Prop) (J : Int32 → (Nat → Int32) → (Nat → Int32) → (Nat → Int32) → (Nat → Int32) → (Nat → Int32) → (Nat → Int32) → (Nat → Int32) → (Nat → Int32) → (Nat → Int32) → Prop) (k : Nat) (hk : k < 18) (m : Nat → Int32) (hJ : J (nI (k + 1)) kn op cs fi inp la nw ha (wy_col k 18 m)) : ∀ d j, j + d = 18 → wY_allNeeds_46 post J (nI k) fw (d + 1) (nI j) kn op cs fi inp la nw ha (wy_col k j m) := by
  intro d
  induction d with
  | zero =>
    intro j hj
    obtain rfl : j = 18 := by omega
    exact br_t mh_18 (nm_r (nI_1 k) hJ)
  | succ d ih =>
    intro j hj
    have hj18 : j < 18 := by omega
    have I := ih (j + 1) (by omega)
    have eR : wy_col k (j + 1) m = if bt (wy_col k j m j) k = true then upd (wy_col k j m) j (wy_col k j m j ||| wy_col k j m k) else wy_col k j m := rfl
    revert I
    rw [eR]
    generalize wy_col k j m = q
    intro I
    refine br_f (mh_ge hj18) ⟨mh_in hj18, br_c (fun c => ?_) (fun c => ?_)⟩
    · rw [mh_cl hj18] at c
      rw [if_pos ((mt_y _ k (by omega)).mp c)] at I
      refine ⟨mh_in hj18, mh_in hk, mh_in hj18, nm_r (e' := upd q j (q j ||| q k)) ?_ (nm_r (nI_1 j) I)⟩
      rw [mh_cl hj18, mh_cl hk]
    · rw [mh_cl hj18] at c
      rw [if_neg (fun z => c ((mt_y _ k (by omega)).mpr z))] at I
      exact nm_r (nI_1 j) I
theorem yw_38 (post : SY → Prop) (m : Nat → Int32) (h : post (fw, kn, op, cs, fi, inp, la, nw, ha, wy_all 18 m)) : ∀ d r, r + d = 18 → wY_allNeeds_38 post fw (d + 1) (nI r) kn op cs fi inp la nw ha (wy_all r m) := by
  intro d
  induction d with
  | zero =>
    intro j hj
    obtain rfl : j = 18 := by omega
    exact br_t mh_18 h
  | succ d ih =>
    intro r hr
    exact br_f (mh_ge (by omega)) ⟨19, yw_46 fw kn op cs fi inp la nw ha post _ r (by omega) (wy_all r m) (ih (r + 1) (by omega)) 18 0 rfl⟩
/-- the table of direct needs, as the reference writes it -/
def yw_t : Nat → Int32 := mf_cp 18 (fun i => mv_dr (kn i) (op i)) nq
theorem yw_2 (post : SY → Prop) (hk : ∀ j, j < 18 → mk_9 (kn j)) (h : post (fw, kn, op, cs, fi, inp, la, nw, ha, wy_all 18 (yw_t kn op nq))) : ∀ d j, j + d = 18 → wY_allNeeds_2 post fw (d + 1) (nI j) kn op cs fi inp la nw ha (mf_cp j (fun i => mv_dr (kn i) (op i)) nq) := by
  intro d
  induction d with
  | zero =>
    intro j hj
    obtain rfl : j = 18 := by omega
    exact br_t mh_18 ⟨19, yw_38 fw kn op cs fi inp la nw ha post (yw_t kn op nq) h 18 0 rfl⟩
  | succ d ih =>
    intro j hj
    have hj18 : j < 18 := by omega
    have I := ih (j + 1) (by omega)
    refine br_f (mh_ge hj18) ⟨mh_in hj18, mh_in hj18, ?_⟩
    rw [mh_cl hj18]
    refine yw_direct fw kn op cs fi inp la nw ha _ _ (kn j) (op j) (hk j hj18) ⟨mh_in hj18, nm_r (e' := mf_cp (j + 1) (fun i => mv_dr (kn i) (op i)) nq) ?_ (nm_r (nI_1 j) I)⟩
    exact mf_s j (fun i => mv_dr (kn i) (op i)) nq
theorem yw_all (post : SY → Prop) (hk : ∀ j, j < 18 → mk_9 (kn j)) (h : post (fw, kn, op, cs, fi, inp, la, nw, ha, wy_all 18 (yw_t kn op nq))) : wpY_allNeeds post (fw, kn, op, cs, fi, inp, la, nw, ha, nq) :=
  ⟨19, yw_2 fw kn op cs fi inp la nw ha nq post hk h 18 0 rfl⟩
theorem yw_c6 (post : Int32 → SY → Prop) (h1 : (∃ a, a < 18 ∧ bt (nq a) a = true) → post 1 (fw, kn, op, cs, fi, inp, la, nw, ha, nq)) (h0 : (∀ a, a < 18 → bt (nq a) a = false) → post 0 (fw, kn, op, cs, fi, inp, la, nw, ha, nq)) : ∀ d j, j + d = 18 → (∀ a, a < j → bt (nq a) a = false) → wY_circle_6 post fw kn op cs fi inp la nw ha nq (d + 1) (nI j) := by
  intro d
  induction d with
  | zero =>
    intro j hj hb
    obtain rfl : j = 18 := by omega
    exact br_t mh_18 (h0 hb)
  | succ d ih =>
    intro j hj hb
    have hj18 : j < 18 := by omega
    refine br_f (mh_ge hj18) ⟨mh_in hj18, br_c (fun c => ?_) (fun c => nm_r (nI_1 j) (ih (j + 1) (by omega) ?_))⟩
    · rw [mh_cl hj18] at c
      exact h1 ⟨j, hj18, (mt_y _ j (by omega)).mp c⟩
    · rw [mh_cl hj18] at c
      intro a haj
      by_cases e : a = j
      · subst e
        cases eb : bt (nq a) a
        · rfl
        · exact absurd ((mt_y _ a (by omega)).mpr eb) c
      · exact hb a (by omega)
theorem yw_circle (post : Int32 → SY → Prop) (hk : ∀ j, j < 18 → mk_9 (kn j)) (h1 : (∃ a, a < 18 ∧ bt (wy_all 18 (yw_t kn op nq) a) a = true) → post 1 (fw, kn, op, cs, fi, inp, la, nw, ha, wy_all 18 (yw_t kn op nq))) (h0 : (∀ a, a < 18 → bt (wy_all 18 (yw_t kn op nq) a) a = false) → post 0 (fw, kn, op, cs, fi, inp, la, nw, ha, wy_all 18 (yw_t kn op nq))) : wpY_circle post (fw, kn, op, cs, fi, inp, la, nw, ha, nq) := by
  unfold wpY_circle
  dsimp only
  exact yw_all fw kn op cs fi inp la nw ha nq _ hk ⟨19, yw_c6 fw kn op cs fi inp la nw ha _ post h1 h0 18 0 rfl (fun a z => absurd z (by omega))⟩
theorem yw_191 (post : Int32 → SY → Prop) (f : Nat) (hf : f < 18) (h : post (ms_n (nq f) 18) (fw, kn, op, cs, fi, inp, la, nw, ha, nq)) : ∀ d j, j + d = 18 → wY_define_191 post (nI f) fw kn op cs fi inp la nw ha nq (d + 1) (ms_n (nq f) j) (nI j) := by
  intro d
  induction d with
  | zero =>
    intro j hj
    obtain rfl : j = 18 := by omega
    exact br_t mh_18 h
  | succ d ih =>
    intro j hj
    refine br_f (mh_ge (by omega)) ⟨mh_in hf, nm_r (e' := ms_n (nq f) (j + 1)) ?_ (nm_r (nI_1 j) (ih (j + 1) (by omega)))⟩
    rw [mh_cl hf, mt_yv (nq f) j (by omega)]
    rfl
/-! the instant -/
def yw_h (d : Int32) : Nat → Int32 := fun g => if bt d g then 1 else 0
theorem yw_r19 (post : Int32 → Prop) (x D : Int32) (hx : ∀ i, bt x i = true → i < 18) (hD : ∀ g, g < 18 → ha g = yw_h D g) (h1 : (x &&& (D ^^^ (-1))) = 0 → post 1) (h0 : ¬ (x &&& (D ^^^ (-1))) = 0 → post 0) : ∀ d j, j + d = 18 → (∀ g, g < j → bt x g = true → bt D g = true) → wY_ready_19 post x fw kn op cs fi inp la nw ha nq (d + 1) (nI j) := by
  intro d
  induction d with
  | zero =>
    intro j hj hb
    obtain rfl : j = 18 := by omega
    exact br_t mh_18 (h1 ((mt_sub x D).mpr (fun i _ z => hb i (hx i z) z)))
  | succ d ih =>
    intro j hj hb
    have hj18 : j < 18 := by omega
    refine br_f (mh_ge hj18) (br_c (fun c => ⟨mh_in hj18, br_c (fun e => ?_) (fun e => nm_r (nI_1 j) (ih (j + 1) (by omega) ?_))⟩) (fun c => nm_r (nI_1 j) (ih (j + 1) (by omega) ?_)))
    · rw [mh_cl hj18, hD j hj18] at e
      have c' := (mt_y x j (by omega)).mp c
      refine h0 (fun z => ?_)
      have := (mt_sub x D).mp z j (by omega) c'
      unfold yw_h at e
      rw [this] at e
      exact absurd e (by decide)
    · rw [mh_cl hj18, hD j hj18] at e
      intro g hg hxg
      by_cases eg : g = j
      · subst eg
        cases eb : bt D g
        · unfold yw_h at e
          rw [eb] at e
          exact absurd rfl e
        · rfl
      · exact hb g (by omega) hxg
    · intro g hg hxg
      by_cases eg : g = j
      · subst eg
        exact absurd ((mt_y x g (by omega)).mpr hxg) c
      · exact hb g (by omega) hxg
theorem yw_ready (post : Int32 → Prop) (f : Nat) (hf : f < 18) (hk : mk_9 (kn f)) (ho : mv_ok (kn f) (op f)) (D : Int32) (hD : ∀ g, g < 18 → ha g = yw_h D g) (h1 : (mv_dr (kn f) (op f) &&& (D ^^^ (-1))) = 0 → post 1) (h0 : ¬ (mv_dr (kn f) (op f) &&& (D ^^^ (-1))) = 0 → post 0) : wpY_ready post (fw, kn, op, cs, fi, inp, la, nw, ha, nq) (nI f) := by
  unfold wpY_ready
  dsimp only
  rw [mh_cl hf]
  exact ⟨mh_in hf, mh_in hf, yw_direct fw kn op cs fi inp la nw ha nq _ (kn f) (op f) hk ⟨19, yw_r19 fw kn op cs fi inp la nw ha nq post _ D (mv_drIn hk ho) hD h1 h0 18 0 rfl (fun g z => absurd z (by omega))⟩⟩
theorem yw_operand (post : Int32 → Prop) (f : Nat) (hf : f < 18) (sh x : Int32) (hx : (op f >>> (sh &&& 31)) &&& 31 = x) (hx31 : ∃ j : Nat, j < 32 ∧ x = nI j) (h : post (if x.toNatClampNeg < 18 then nw x.toNatClampNeg else 0)) : wpY_operand post (fw, kn, op, cs, fi, inp, la, nw, ha, nq) (nI f) sh := by
  unfold wpY_operand
  dsimp only
  rw [mh_cl hf]
  refine ⟨mh_in hf, nm_r hx ?_⟩
  obtain ⟨j, hj, rfl⟩ := hx31
  rw [nI_clamp (by omega)] at h
  by_cases z : j < 18
  · rw [if_pos z] at h
    refine br_f (mh_ge z) ⟨mh_in z, ?_⟩
    rw [mh_cl z]
    exact h
  · rw [if_neg z] at h
    exact br_t ((nI_leI (a := 18) (by decide) (by omega)).mpr (by omega)) h
end
end
section
/-! ===== the reference's instant ===== -/
section
variable (fw : Int32) (kn op cs fi inp la nw ha nq : Nat → Int32)
theorem yi_worth (post : Int32 → Prop) (f : Nat) (hf : f < 18) (hk : mk_9 (kn f)) (ho : mv_ok (kn f) (op f)) (bg : Int32) (hb : bg = 0 ↔ ¬ fi f = 0) (h : post (mv_val (kn f) (op f) (cs f) bg inp la nw f)) : wpY_worth post (fw, kn, op, cs, fi, inp, la, nw, ha, nq) (nI f) := by
  have hi := mh_in hf
  have ec := mh_cl hf
  unfold wpY_worth
  dsimp only
  rw [ec]
  refine ⟨hi, nm_e ?_⟩
  refine yw_operand fw kn op cs fi inp la nw ha nq _ f hf 0 (mo_a (op f)) (by rw [mo_shr0]; rfl) (mo_31 _) ?_
  refine yw_operand fw kn op cs fi inp la nw ha nq _ f hf 5 (mo_b (op f)) rfl (mo_31 _) ?_
  refine yw_operand fw kn op cs fi inp la nw ha nq _ f hf 10 (mo_s (op f)) rfl (mo_31 _) ?_
  revert h ho
  unfold mv_val mv_ok
  generalize kn f = k at hk
  rcases hk with rfl | rfl | rfl | rfl | rfl | rfl | rfl | rfl | rfl <;> intro ho h
  · rw [if_pos (by decide)] at h
    exact br_t rfl ⟨hi, mo_in3 _, h⟩
  · rw [if_neg (by decide), if_pos (by decide)] at h
    exact br_f (by decide) (br_t rfl ⟨hi, h⟩)
  · rw [if_neg (by decide), if_neg (by decide), if_pos (by decide)] at h
    rw [if_pos (ho.1 (by decide)), if_pos (ho.2.1 (by decide))]
    exact br_f (by decide) (br_f (by decide) (br_t rfl h))
  · rw [if_neg (by decide), if_neg (by decide), if_neg (by decide), if_pos (by decide)] at h
    rw [if_pos (ho.1 (by decide)), if_pos (ho.2.1 (by decide))]
    exact br_f (by decide) (br_f (by decide) (br_f (by decide) (br_t rfl h)))
  · rw [if_neg (by decide), if_neg (by decide), if_neg (by decide), if_neg (by decide), if_pos (by decide)] at h
    rw [if_pos (ho.1 (by decide)), if_pos (ho.2.1 (by decide))]
    exact br_f (by decide) (br_f (by decide) (br_f (by decide) (br_f (by decide) (br_t rfl h))))
  · rw [if_neg (by decide), if_neg (by decide), if_neg (by decide), if_neg (by decide), if_neg (by decide), if_pos (by decide)] at h
    rw [if_pos (ho.1 (by decide)), if_pos (ho.2.1 (by decide))]
    refine br_f (by decide) (br_f (by decide) (br_f (by decide) (br_f (by decide) (br_f (by decide) (br_t rfl (br_c (fun c => ?_) (fun c => ?_)))))))
    · rw [if_neg (Int32.not_lt.mpr c)] at h
      exact h
    · rw [if_pos (Int32.not_le.mp c)] at h
      exact h
  · rw [if_neg (by decide), if_neg (by decide), if_neg (by decide), if_neg (by decide), if_neg (by decide), if_neg (by decide), if_pos (by decide)] at h
    rw [if_pos (ho.1 (by decide)), if_pos (ho.2.1 (by decide)), if_pos (ho.2.2 (by decide))]
    refine br_f (by decide) (br_f (by decide) (br_f (by decide) (br_f (by decide) (br_f (by decide) (br_f (by decide) (br_t rfl (br_c (fun c => ?_) (fun c => ?_))))))))
    · rw [if_pos c] at h
      exact h
    · rw [if_neg c] at h
      exact h
  · rw [if_neg (by decide), if_neg (by decide), if_neg (by decide), if_neg (by decide), if_neg (by decide), if_neg (by decide), if_neg (by decide), if_pos (by decide)] at h
    refine br_f (by decide) (br_f (by decide) (br_f (by decide) (br_f (by decide) (br_f (by decide) (br_f (by decide) (br_f (by decide) (br_t rfl ⟨hi, br_c (fun c => ⟨hi, ?_, ?_⟩) (fun c => ⟨hi, ?_⟩)⟩)))))))
    · obtain ⟨j, hj, e⟩ := mo_31 (op f)
      have hl := ho.1 (by decide)
      unfold mo_a at hl
      rw [e, nI_clamp (by omega)] at hl
      rw [e]
      exact mh_in hl
    · rw [if_neg (fun z => hb.mp z c)] at h
      exact h
    · rw [if_pos (hb.mpr c)] at h
      exact h
  · rw [if_neg (by decide), if_neg (by decide), if_neg (by decide), if_neg (by decide), if_neg (by decide), if_neg (by decide), if_neg (by decide), if_neg (by decide)] at h
    rw [if_pos (ho.1 (by decide)), if_pos (ho.2.2 (by decide))]
    refine br_f (by decide) (br_f (by decide) (br_f (by decide) (br_f (by decide) (br_f (by decide) (br_f (by decide) (br_f (by decide) (br_f (by decide) (br_c (fun c => ⟨hi, br_c (fun c2 => ⟨hi, ?_⟩) (fun c2 => ⟨hi, ?_⟩)⟩) (fun c => ?_)))))))))
    · rw [if_pos c, if_neg (fun z => hb.mp z c2)] at h
      exact h
    · rw [if_pos c, if_pos (hb.mpr c2)] at h
      exact h
    · rw [if_neg c] at h
      exact h
end
theorem yi_hs (d : Int32) (ha : Nat → Int32) {j : Nat} (hj : j < 18) : upd (mf_cp 18 (yw_h d) ha) j 1 = mf_cp 18 (yw_h (d ||| (1 : Int32) <<< (nI j &&& 31))) ha := by
  funext g
  show (if g = j then 1 else mf_cp 18 (yw_h d) ha g) = _
  by_cases z : g < 18
  · rw [mf_lt _ _ z, mf_lt _ _ z]
    unfold yw_h
    rw [b_or, mt_sh j (by omega) (by omega)]
    by_cases e : g = j
    · rw [if_pos e, decide_eq_true e, Bool.or_true, if_pos rfl]
    · rw [if_neg e, decide_eq_false e, Bool.or_false]
  · rw [mf_ge _ _ z, mf_ge _ _ z, if_neg (by omega)]
theorem yi_h0 (ha : Nat → Int32) : mf_cp 18 (fun _ => 0) ha = mf_cp 18 (yw_h 0) ha := by
  funext g
  by_cases z : g < 18
  · rw [mf_lt _ _ z, mf_lt _ _ z]
    unfold yw_h
    rw [b_0]
    rfl
  · rw [mf_ge _ _ z, mf_ge _ _ z]
section
variable (fw : Int32) (kn op cs ne be fi inp la ha nq : Nat → Int32)
theorem yi_31 (hA : ∀ j, j < 18 → mk_9 (kn j) ∧ mv_ok (kn j) (op j) ∧ ne j = mv_dr (kn j) (op j)) (hB : ∀ j, j < 18 → (be j = 0 ↔ ¬ fi j = 0)) (post : SY → Prop) (J : Int32 → (Nat → Int32) → (Nat → Int32) → (Nat → Int32) → (Nat → Int32) → (Nat → Int32) → (Nat → Int32) → (Nat → Int32) → (Nat → Int32) → (Nat → Int32) → Prop) (x1 : Int32) (p : Int32 × (Nat → Int32)) (hJ : J (x1 + 1) kn op cs fi inp la (mi_pass ne (xi_v kn op cs be inp la) 18 p).2 (mf_cp 18 (yw_h (mi_pass ne (xi_v kn op cs be inp la) 18 p).1) ha) nq) : ∀ d j, j + d = 18 → wY_instant_31 post J x1 fw (d + 1) (nI j) kn op cs fi inp la (mi_pass ne (xi_v kn op cs be inp la) j p).2 (mf_cp 18 (yw_h (mi_pass ne (xi_v kn op cs be inp la) j p).1) ha) nq := by
  intro d
  induction d with
  | zero =>
    intro j hj
    obtain rfl : j = 18 := by omega
    exact br_t mh_18 (nm_e hJ)
  | succ d ih =>
    intro j hj
    have hj18 : j < 18 := by omega
    have I := ih (j + 1) (by omega)
    have eR : mi_pass ne (xi_v kn op cs be inp la) (j + 1) p = mi_row ne (xi_v kn op cs be inp la) (mi_pass ne (xi_v kn op cs be inp la) j p) j := rfl
    revert I
    rw [eR]
    generalize mi_pass ne (xi_v kn op cs be inp la) j p = q
    intro I
    obtain ⟨k9, ko, ke⟩ := hA j hj18
    refine br_f (mh_ge hj18) ⟨mh_in hj18, br_c (fun c => ?_) (fun c => ?_)⟩
    · rw [mh_cl hj18, mf_lt _ _ hj18] at c
      have b : bt q.1 j = false := by
        cases eb : bt q.1 j
        · rfl
        · unfold yw_h at c
          rw [eb] at c
          exact absurd c (by decide)
      refine yw_ready fw kn op cs fi inp la q.2 _ nq _ j hj18 k9 ko q.1 (fun g hg => mf_lt _ _ hg) (fun r => br_f (by decide) ?_) (fun r => br_t rfl (nm_r (nI_1 j) ?_))
      · rw [← ke] at r
        refine yi_worth fw kn op cs fi inp la q.2 _ nq _ j hj18 k9 ko (be j) (hB j hj18) ⟨mh_in hj18, nm_e ⟨mh_in hj18, nm_e (nm_r (nI_1 j) ?_)⟩⟩
        rw [mi_t ne _ r b] at I
        rw [mh_cl hj18, mh_b1, yi_hs _ _ hj18]
        exact I
      · rw [← ke] at r
        rw [mi_f1 ne _ r] at I
        exact I
    · rw [mh_cl hj18, mf_lt _ _ hj18] at c
      have b : bt q.1 j = true := by
        cases eb : bt q.1 j
        · unfold yw_h at c
          rw [eb] at c
          exact absurd rfl c
        · rfl
      rw [mi_f2 ne _ b] at I
      exact nm_r (nI_1 j) I
theorem yi_23 (hA : ∀ j, j < 18 → mk_9 (kn j) ∧ mv_ok (kn j) (op j) ∧ ne j = mv_dr (kn j) (op j)) (hB : ∀ j, j < 18 → (be j = 0 ↔ ¬ fi j = 0)) (post : SY → Prop) (p : Int32 × (Nat → Int32)) (h : post (fw, kn, op, cs, fi, inp, la, (mi_all ne (xi_v kn op cs be inp la) 18 p).2, mf_cp 18 (yw_h (mi_all ne (xi_v kn op cs be inp la) 18 p).1) ha, nq)) : ∀ d r, r + d = 18 → wY_instant_23 post fw (d + 1) (nI r) kn op cs fi inp la (mi_all ne (xi_v kn op cs be inp la) r p).2 (mf_cp 18 (yw_h (mi_all ne (xi_v kn op cs be inp la) r p).1) ha) nq := by
  intro d
  induction d with
  | zero =>
    intro j hj
    obtain rfl : j = 18 := by omega
    exact br_t mh_18 h
  | succ d ih =>
    intro r hr
    refine br_f (mh_ge (by omega)) ⟨19, yi_31 fw kn op cs ne be fi inp la ha nq hA hB post _ (nI r) (mi_all ne (xi_v kn op cs be inp la) r p) ?_ 18 0 rfl⟩
    rw [nI_1]
    exact ih (r + 1) (by omega)
theorem yi_2 (nw : Nat → Int32) (hA : ∀ j, j < 18 → mk_9 (kn j) ∧ mv_ok (kn j) (op j) ∧ ne j = mv_dr (kn j) (op j)) (hB : ∀ j, j < 18 → (be j = 0 ↔ ¬ fi j = 0)) (post : SY → Prop) (h : post (fw, kn, op, cs, fi, inp, la, (xi_p kn op cs ne be inp la nw).2, mf_cp 18 (yw_h (xi_p kn op cs ne be inp la nw).1) ha, nq)) : ∀ d j, j + d = 18 → wY_instant_2 post fw (d + 1) (nI j) kn op cs fi inp la nw (mf_cp j (fun _ => 0) ha) nq := by
  intro d
  induction d with
  | zero =>
    intro j hj
    obtain rfl : j = 18 := by omega
    refine br_t mh_18 ⟨19, ?_⟩
    rw [yi_h0]
    exact yi_23 fw kn op cs ne be fi inp la ha nq hA hB post (0, nw) h 18 0 rfl
  | succ d ih =>
    intro j hj
    have hj18 : j < 18 := by omega
    refine br_f (mh_ge hj18) ⟨mh_in hj18, nm_r (e' := mf_cp (j + 1) (fun _ => 0) ha) ?_ (nm_r (nI_1 j) (ih (j + 1) (by omega)))⟩
    rw [mh_cl hj18, mh_b0]
    exact mf_s j (fun _ => 0) ha
theorem yi_inst (nw : Nat → Int32) (hA : ∀ j, j < 18 → mk_9 (kn j) ∧ mv_ok (kn j) (op j) ∧ ne j = mv_dr (kn j) (op j)) (hB : ∀ j, j < 18 → (be j = 0 ↔ ¬ fi j = 0)) (post : SY → Prop) (h : post (fw, kn, op, cs, fi, inp, la, (xi_p kn op cs ne be inp la nw).2, mf_cp 18 (yw_h (xi_p kn op cs ne be inp la nw).1) ha, nq)) : wpY_instant post (fw, kn, op, cs, fi, inp, la, nw, ha, nq) :=
  ⟨19, yi_2 fw kn op cs ne be fi inp la ha nq nw hA hB post h 18 0 rfl⟩
end
section
variable (fw : Int32) (kn op cs fi inp la nw ha nq : Nat → Int32)
theorem yi_s19 (post : Int32 → SY → Prop) (J : Int32 → Int32 → (Nat → Int32) → (Nat → Int32) → (Nat → Int32) → (Nat → Int32) → (Nat → Int32) → (Nat → Int32) → (Nat → Int32) → (Nat → Int32) → (Nat → Int32) → Prop) (x1 x2 : Int32) (h : J (x2 + 1) (fw + 1) kn op cs (mf_cp 18 (fun _ => 0) fi) inp (mf_cp 18 nw la) nw ha nq) : ∀ d j, j + d = 18 → wY_step_19 post J x1 x2 fw (d + 1) (nI j) kn op cs (mf_cp j (fun _ => 0) fi) inp (mf_cp j nw la) nw ha nq := by
  intro d
  induction d with
  | zero =>
    intro j hj
    obtain rfl : j = 18 := by omega
    exact br_t mh_18 (nm_e (nm_e h))
  | succ d ih =>
    intro j hj
    have hj18 : j < 18 := by omega
    have I := ih (j + 1) (by omega)
    refine br_f (mh_ge hj18) ⟨mh_in hj18, mh_in hj18, nm_r (e' := mf_cp (j + 1) nw la) ?_ ⟨mh_in hj18, nm_r (e' := mf_cp (j + 1) (fun _ => 0) fi) ?_ (nm_r (nI_1 j) I)⟩⟩
    · rw [mh_cl hj18]
      exact mf_s j nw la
    · rw [mh_cl hj18, mh_b0]
      exact mf_s j (fun _ => 0) fi
theorem yi_r7 (post : SY → Prop) (h : post (fw, kn, op, cs, mf_cp 18 (fun _ => 1) fi, inp, mf_cp 18 (fun _ => 0) la, nw, ha, nq)) : ∀ d j, j + d = 18 → wY_reset_7 post fw (d + 1) (nI j) kn op cs (mf_cp j (fun _ => 1) fi) inp (mf_cp j (fun _ => 0) la) nw ha nq := by
  intro d
  induction d with
  | zero =>
    intro j hj
    obtain rfl : j = 18 := by omega
    exact br_t mh_18 h
  | succ d ih =>
    intro j hj
    have hj18 : j < 18 := by omega
    have I := ih (j + 1) (by omega)
    refine br_f (mh_ge hj18) ⟨mh_in hj18, nm_r (e' := mf_cp (j + 1) (fun _ => 0) la) ?_ ⟨mh_in hj18, nm_r (e' := mf_cp (j + 1) (fun _ => 1) fi) ?_ (nm_r (nI_1 j) I)⟩⟩
    · rw [mh_cl hj18]
      exact mf_s j (fun _ => 0) la
    · rw [mh_cl hj18, mh_b1]
      exact mf_s j (fun _ => 1) fi
theorem yi_reset (post : SY → Prop) (h : post (0, kn, op, cs, mf_cp 18 (fun _ => 1) fi, inp, mf_cp 18 (fun _ => 0) la, nw, ha, nq)) : wpY_reset post (fw, kn, op, cs, fi, inp, la, nw, ha, nq) :=
  ⟨19, yi_r7 0 kn op cs fi inp la nw ha nq post h 18 0 rfl⟩
theorem yi_i77 (post : SY → Prop) (h : post (fw, mf_cp 18 (fun _ => 1) kn, op, cs, mf_cp 18 (fun _ => 1) fi, inp, la, nw, ha, nq)) : ∀ d j, j + d = 18 → wY_init_77 post fw (d + 1) (nI j) (mf_cp j (fun _ => 1) kn) op cs (mf_cp j (fun _ => 1) fi) inp la nw ha nq := by
  intro d
  induction d with
  | zero =>
    intro j hj
    obtain rfl : j = 18 := by omega
    exact br_t mh_18 h
  | succ d ih =>
    intro j hj
    have hj18 : j < 18 := by omega
    have I := ih (j + 1) (by omega)
    refine br_f (mh_ge hj18) ⟨mh_in hj18, nm_r (e' := mf_cp (j + 1) (fun _ => 1) kn) ?_ ⟨mh_in hj18, nm_r (e' := mf_cp (j + 1) (fun _ => 1) fi) ?_ (nm_r (nI_1 j) I)⟩⟩
    · rw [mh_cl hj18]
      exact mf_s j (fun _ => 1) kn
    · rw [mh_cl hj18, mh_b1]
      exact mf_s j (fun _ => 1) fi
end
theorem yi_init (post : SY → Prop) (h : post (0, mf_cp 18 (fun _ => 1) (fun _ => 0), (fun _ => 0), (fun _ => 0), mf_cp 18 (fun _ => 1) (fun _ => 0), (fun _ => 0), (fun _ => 0), (fun _ => 0), (fun _ => 0), (fun _ => 0))) : wpY_init post :=
  ⟨19, yi_i77 0 (fun _ => 0) (fun _ => 0) (fun _ => 0) (fun _ => 0) (fun _ => 0) (fun _ => 0) (fun _ => 0) (fun _ => 0) (fun _ => 0) post h 18 0 rfl⟩
end
section
/-! ===== the relation ===== -/
/-- what holds of the tables: kinds and operands good, the component's needs are the direct ones, begun and first are opposite, no circle, nothing seen before the first instant -/
def md_I (w : Nat) (kn op ne be fi la : Nat → Int32) : Prop :=
  (∀ j, j < 18 → mk_9 (kn j) ∧ mv_ok (kn j) (op j) ∧ ne j = mv_dr (kn j) (op j)) ∧ (∀ j, j < 18 → (be j = 0 ↔ ¬ fi j = 0)) ∧ mp_Ac (mx_D ne) ∧ (w = 0 → ∀ j, j < 18 → la j = 0)
def i_Rel (k : Nat) (u : SX) (v : SY) : Prop := ∃ (w : Nat) (kn op cs ne be fi inp la nw ha nq : Nat → Int32), w ≤ 20 * k ∧ u = (nI w, kn, op, cs, ne, be, inp, la, nw) ∧ v = (nI w, kn, op, cs, fi, inp, la, nw, ha, nq) ∧ md_I w kn op ne be fi la
theorem i_up {k : Nat} {u : SX} {v : SY} (h : i_Rel k u v) : i_Rel (k + 5) u v := by
  obtain ⟨w, kn, op, cs, ne, be, fi, inp, la, nw, ha, nq, hw, hu, hv, hI⟩ := h
  exact ⟨w, kn, op, cs, ne, be, fi, inp, la, nw, ha, nq, by omega, hu, hv, hI⟩
theorem md_mk {k w : Nat} {kn op cs ne be fi inp la nw ha nq : Nat → Int32} (hw : w ≤ 20 * k) (hI : md_I w kn op ne be fi la) : i_Rel k (nI w, kn, op, cs, ne, be, inp, la, nw) (nI w, kn, op, cs, fi, inp, la, nw, ha, nq) :=
  ⟨w, kn, op, cs, ne, be, fi, inp, la, nw, ha, nq, hw, rfl, rfl, hI⟩
theorem md_one : (1 : Int32) = 0 ∨ mk_9 1 := Or.inr (Or.inr (Or.inl rfl))
theorem i_vc0 : wpX_init (fun u => wpY_init (fun v => i_Rel 0 u v)) := by
  refine xi_init _ (yi_init _ (md_mk (k := 0) (w := 0) (Nat.le_refl 0) ⟨?_, ?_, ?_, ?_⟩))
  · intro j hj
    rw [mf_lt _ _ hj]
    refine ⟨Or.inr (Or.inl rfl), ⟨fun z => absurd z (by decide), fun z => absurd z (by decide), fun z => absurd z (by decide)⟩, ?_⟩
    unfold mv_dr
    rw [if_neg (by decide), if_neg (by decide), if_neg (by decide)]
  · intro j hj
    rw [mf_lt _ _ hj]
    exact ⟨fun _ => by decide, fun _ => rfl⟩
  · refine ⟨fun _ _ => False, ?_, fun _ _ _ z _ => z, fun _ z => z⟩
    intro a b d
    have h2 : bt 0 b = true := d.2
    rw [b_0] at h2
    exact absurd h2 (by decide)
  · exact fun _ _ _ => rfl
/-! ===== the small calls ===== -/
theorem i_vc_instants {k : Nat} {u : SX} {v : SY} (I : i_Rel k u v) (hk : k + 5 ≤ 2560) : wpX_instants (fun r => wpY_instants (fun r' => r' = r ∧ i_Rel (k + 5) u v) v) u := by
  have J := i_up I
  obtain ⟨w, kn, op, cs, ne, be, fi, inp, la, nw, ha, nq, hw, rfl, rfl, hI⟩ := I
  exact ⟨rfl, J⟩
theorem i_vc_input {k : Nat} {u : SX} {v : SY} (I : i_Rel k u v) (hk : k + 5 ≤ 2560) (v1 : Int32) (v2 : Int32) : wpX_input (fun r u' => wpY_input (fun r' v' => r' = r ∧ i_Rel (k + 5) u' v') v v1 v2) u v1 v2 := by
  obtain ⟨w, kn, op, cs, ne, be, fi, inp, la, nw, ha, nq, hw, rfl, rfl, hI⟩ := I
  have h3 := mo_in3 v1
  exact ⟨h3, nm_e ⟨h3, nm_e ⟨h3, nm_e ⟨h3, nm_e ⟨rfl, md_mk (by omega) hI⟩⟩⟩⟩⟩
theorem i_vc_reset {k : Nat} {u : SX} {v : SY} (I : i_Rel k u v) (hk : k + 5 ≤ 2560) : wpX_reset (fun u' => wpY_reset (fun v' => i_Rel (k + 5) u' v') v) u := by
  obtain ⟨w, kn, op, cs, ne, be, fi, inp, la, nw, ha, nq, hw, rfl, rfl, hI⟩ := I
  refine xi_reset _ kn op cs ne be inp la nw _ (yi_reset _ kn op cs fi inp la nw ha nq _ (md_mk (w := 0) (by omega) ⟨hI.1, ?_, hI.2.2.1, ?_⟩))
  · intro j hj
    rw [mf_lt _ _ hj, mf_lt _ _ hj]
    exact ⟨fun _ => by decide, fun _ => rfl⟩
  · intro _ j hj
    rw [mf_lt _ _ hj]
theorem i_vc_value {k : Nat} {u : SX} {v : SY} (I : i_Rel k u v) (hk : k + 5 ≤ 2560) (v1 : Int32) : wpX_value (fun r => wpY_value (fun r' => r' = r ∧ i_Rel (k + 5) u v) v v1) u v1 := by
  have J := i_up I
  obtain ⟨w, kn, op, cs, ne, be, fi, inp, la, nw, ha, nq, hw, rfl, rfl, hI⟩ := I
  unfold wpX_value wpY_value
  dsimp only
  rcases fl_c v1 with ⟨f, hf, rfl⟩ | hb
  · refine fl_x1 hf (br_f (by decide) ⟨mh_in32 hf, fl_y0 hf (br_t rfl (br_c (fun z => ⟨?_, J⟩) (fun z => ⟨mh_in hf, rfl, J⟩)))⟩)
    rw [mh_cl hf]
    have hw0 : w = 0 := by
      rcases Nat.eq_zero_or_pos w with y | y
      · exact y
      · exact absurd z (nI_ne0 y (by omega))
    exact (hI.2.2.2 hw0 f hf).symm
  · exact fl_x0 hb (br_t rfl (fl_y1 hb (br_f (by decide) ⟨rfl, J⟩)))
theorem i_vc_kind {k : Nat} {u : SX} {v : SY} (I : i_Rel k u v) (hk : k + 5 ≤ 2560) (v1 : Int32) : wpX_kind (fun r => wpY_kind (fun r' => r' = r ∧ i_Rel (k + 5) u v) v v1) u v1 := by
  have J := i_up I
  obtain ⟨w, kn, op, cs, ne, be, fi, inp, la, nw, ha, nq, hw, rfl, rfl, hI⟩ := I
  unfold wpX_kind wpY_kind
  dsimp only
  rcases fl_c v1 with ⟨f, hf, rfl⟩ | hb
  · exact fl_x1 hf (br_f (by decide) ⟨mh_in hf, fl_y0 hf (br_t rfl ⟨mh_in hf, rfl, J⟩)⟩)
  · exact fl_x0 hb (br_t rfl (fl_y1 hb (br_f (by decide) ⟨rfl, J⟩)))
theorem i_vc_next {k : Nat} {u : SX} {v : SY} (I : i_Rel k u v) (hk : k + 5 ≤ 2560) (v1 : Int32) : wpX_next (fun r u' => wpY_next (fun r' v' => r' = r ∧ i_Rel (k + 5) u' v') v v1) u v1 := by
  have J := i_up I
  obtain ⟨w, kn, op, cs, ne, be, fi, inp, la, nw, ha, nq, hw, rfl, rfl, hI⟩ := I
  unfold wpX_next wpY_next
  dsimp only
  rcases fl_c v1 with ⟨f, hf, rfl⟩ | hb
  · refine fl_x1 hf (br_f (by decide) (xi_work _ kn op cs ne be inp la nw _ (fun j hj => (hI.1 j hj).1) ⟨mh_in32 hf, fl_y0 hf (br_t rfl ?_)⟩))
    exact yi_inst _ kn op cs ne be fi inp la ha nq nw hI.1 hI.2.1 _ ⟨mh_in hf, rfl, md_mk (by omega) hI⟩
  · exact fl_x0 hb (br_t rfl (fl_y1 hb (br_f (by decide) ⟨rfl, J⟩)))
/-! ===== needs ===== -/
theorem md_nb (z : Int32) (h : z = 0 ∨ z = 1) : narrow .boolean (.int z) = .int z := by
  rcases h with rfl | rfl <;> rfl
/-- the reference's table has the component's needs as its direct relation -/
theorem md_tab {kn op ne nq : Nat → Int32} (hA : ∀ j, j < 18 → mk_9 (kn j) ∧ mv_ok (kn j) (op j) ∧ ne j = mv_dr (kn j) (op j)) : mx_D (yw_t kn op nq) = mx_D ne := by
  funext a b
  unfold mx_D yw_t
  apply propext
  constructor
  · intro h
    have := h.2
    rw [mf_lt _ _ h.1, ← (hA a h.1).2.2] at this
    exact ⟨h.1, this⟩
  · intro h
    have := h.2
    rw [(hA a h.1).2.2] at this
    refine ⟨h.1, ?_⟩
    rw [mf_lt _ _ h.1]
    exact this
theorem md_in {kn op ne : Nat → Int32} (hA : ∀ j, j < 18 → mk_9 (kn j) ∧ mv_ok (kn j) (op j) ∧ ne j = mv_dr (kn j) (op j)) : ∀ a, a < 18 → ∀ i, bt (ne a) i = true → i < 18 := by
  intro a ha i h
  rw [(hA a ha).2.2] at h
  exact mv_drIn (hA a ha).1 (hA a ha).2.1 i h
theorem i_vc_needs {k : Nat} {u : SX} {v : SY} (I : i_Rel k u v) (hk : k + 5 ≤ 2560) (v1 : Int32) (v2 : Int32) : wpX_needs (fun r => wpY_needs (fun r' v' => r' = r ∧ i_Rel (k + 5) u v') v v1 v2) u v1 v2 := by
  have J := i_up I
  obtain ⟨w, kn, op, cs, ne, be, fi, inp, la, nw, ha, nq, hw, rfl, rfl, hI⟩ := I
  unfold wpX_needs wpY_needs
  dsimp only
  rcases fl_c v1 with ⟨f, hf, rfl⟩ | hb
  · rcases fl_c v2 with ⟨g, hg, rfl⟩ | hb2
    · have hS := mx_LS ne (ne f) (fun i => md_in hI.1 f hf i) (md_in hI.1)
      have hB : (fun i => bt (ne f) i = true) = mx_D ne f := by
        funext i
        exact propext ⟨fun z => ⟨hf, z⟩, fun z => z.2⟩
      rw [hB] at hS
      have hT := wy_TC (yw_t kn op nq)
      rw [md_tab hI.1] at hT
      have key := mp_needs hS hT g
      have key2 : bt (wy_all 18 (yw_t kn op nq) f) g = true ↔ bt (mx_cl ne 18 (ne f)) g = true := ⟨fun z => key.mp ⟨hf, z⟩, fun z => (key.mpr z).2⟩
      refine fl_x1 hf (br_f (by decide) (fl_x1 hg (br_f (by decide) ⟨mh_in hf, ?_⟩)))
      rw [mh_cl hf]
      refine xw_needs _ kn op cs ne be inp la nw _ (ne f) (xw_con hg (fun c => ⟨rfl, ?_⟩) (fun c => ⟨rfl, ?_⟩))
      · refine fl_y0 hf (br_t rfl (fl_y0 hg (br_t rfl (yw_all _ kn op cs fi inp la nw ha nq _ (fun j hj => (hI.1 j hj).1) ⟨mh_in hf, br_f ?_ ⟨rfl, md_mk (by omega) hI⟩⟩))))
        show ¬ ((wy_all 18 (yw_t kn op nq) f) >>> (nI g &&& 31)) &&& 1 = 1
        rw [mt_y _ g (by omega), key2, c]
        decide
      · refine fl_y0 hf (br_t rfl (fl_y0 hg (br_t rfl (yw_all _ kn op cs fi inp la nw ha nq _ (fun j hj => (hI.1 j hj).1) ⟨mh_in hf, br_t ?_ ⟨rfl, md_mk (by omega) hI⟩⟩))))
        show ((wy_all 18 (yw_t kn op nq) f) >>> (nI g &&& 31)) &&& 1 = 1
        rw [mt_y _ g (by omega), key2, c]
    · exact fl_x1 hf (br_f (by decide) (fl_x0 hb2 (br_t rfl (fl_y0 hf (br_t rfl (fl_y1 hb2 (br_f (by decide) ⟨rfl, J⟩)))))))
  · exact fl_x0 hb (br_t rfl (fl_y1 hb (br_f (by decide) ⟨rfl, J⟩)))
end
section
/-! ===== step: both sides work the same instants ===== -/
theorem st_I {w : Nat} {kn op ne be fi la nw : Nat → Int32} (hI : md_I w kn op ne be fi la) : md_I (w + 1) kn op ne (mf_cp 18 (fun _ => 1) be) (mf_cp 18 (fun _ => 0) fi) (mf_cp 18 nw la) := by
  refine ⟨hI.1, ?_, hI.2.2.1, fun z => absurd z (by omega)⟩
  intro j hj
  rw [mf_lt _ _ hj, mf_lt _ _ hj]
  exact ⟨fun z => absurd z (by decide), fun z => absurd rfl z⟩
theorem st_y2 (post : Int32 → SY → Prop) (x1 : Int32) (m : Nat) (hY2 : ∀ j, m ≤ j → j < 100 → x1 ≤ nI j) (fw : Int32) (kn op cs fi inp la nw ha nq : Nat → Int32) (h : post fw (fw, kn, op, cs, fi, inp, la, nw, ha, nq)) : ∀ d i, i + d = 100 → m ≤ i → wY_step_2 post x1 (d + 1) (nI i) fw kn op cs fi inp la nw ha nq := by
  intro d
  induction d with
  | zero =>
    intro i hi hm
    obtain rfl : i = 100 := by omega
    exact br_t (by decide) h
  | succ d ih =>
    intro i hi hm
    exact br_f (nI_ge (b := 100) (by omega) (by decide)) (br_t (hY2 i hm (by omega)) (nm_r (nI_1 i) (ih (i + 1) (by omega) (by omega))))
theorem st_run (x1 x2 : Int32) (m : Nat) (hm : m ≤ 100) (hX1 : ∀ j, j < m → ¬ x2 ≤ nI j) (hX2 : x2 ≤ nI m) (hY1 : ∀ j, j < m → ¬ x1 ≤ nI j) (hY2 : ∀ j, m ≤ j → j < 100 → x1 ≤ nI j) (kn op cs ne inp nq : Nat → Int32) : ∀ (d i w : Nat) (be fi la nw ha : Nat → Int32), i + d = m → md_I w kn op ne be fi la → ∃ be' fi' la' nw' ha' : Nat → Int32, md_I (w + d) kn op ne be' fi' la' ∧ (∀ post : Int32 → SX → Prop, post (nI (w + d)) (nI (w + d), kn, op, cs, ne, be', inp, la', nw') → wX_step_15 post x2 (d + 1) (nI i) (nI w) kn op cs ne be inp la nw) ∧ (∀ post : Int32 → SY → Prop, post (nI (w + d)) (nI (w + d), kn, op, cs, fi', inp, la', nw', ha', nq) → wY_step_2 post x1 (100 - m + d + 1) (nI i) (nI w) kn op cs fi inp la nw ha nq) := by
  intro d
  induction d with
  | zero =>
    intro i w be fi la nw ha hi hI
    obtain rfl : i = m := by omega
    exact ⟨be, fi, la, nw, ha, hI, fun post h => br_t hX2 h, fun post h => st_y2 post x1 i hY2 (nI w) kn op cs fi inp la nw ha nq h (100 - i) i (by omega) (Nat.le_refl i)⟩
  | succ d ih =>
    intro i w be fi la nw ha hi hI
    obtain ⟨be', fi', la', nw', ha', hI', hX, hY⟩ := ih (i + 1) (w + 1) (mf_cp 18 (fun _ => 1) be) (mf_cp 18 (fun _ => 0) fi) (mf_cp 18 (xi_p kn op cs ne be inp la nw).2 la) (xi_p kn op cs ne be inp la nw).2 (mf_cp 18 (yw_h (xi_p kn op cs ne be inp la nw).1) ha) (by omega) (st_I hI)
    have ew : w + 1 + d = w + (d + 1) := by omega
    rw [ew] at hI' hX hY
    refine ⟨be', fi', la', nw', ha', hI', fun post h => ?_, fun post h => ?_⟩
    · have W := hX post h
      refine br_f (hX1 i (by omega)) (xi_work (nI w) kn op cs ne be inp la nw _ (fun j hj => (hI.1 j hj).1) ?_)
      refine xi_keep (nI w) kn op cs ne be inp la _ _ (nm_r (nI_1 i) ?_)
      rw [nI_1]
      exact W
    · have W := hY post h
      refine br_f (nI_ge (b := 100) (by omega) (by decide)) (br_f (hY1 i (by omega)) (yi_inst (nI w) kn op cs ne be fi inp la ha nq nw hI.1 hI.2.1 _ ⟨19, ?_⟩))
      refine yi_s19 (nI w) kn op cs fi inp la _ _ nq post _ x1 (nI i) ?_ 18 0 rfl
      rw [nI_1, nI_1]
      exact W
/-- how many instants a call of step works: for both sides the same -/
theorem st_cnt (x : Int32) : ∃ (m : Nat) (x2 : Int32), m ≤ 100 ∧ ((x ≤ 100 ∧ x2 = x) ∨ (¬ x ≤ 100 ∧ x2 = 100)) ∧ (∀ j, j < m → ¬ x2 ≤ nI j) ∧ x2 ≤ nI m ∧ (∀ j, j < m → ¬ x ≤ nI j) ∧ (∀ j, m ≤ j → j < 100 → x ≤ nI j) := by
  by_cases h0 : x < 0
  · have hle : ∀ j : Nat, j ≤ 100 → x ≤ nI j := by
      intro j hj
      exact Int32.le_trans (Int32.le_of_lt h0) (nI_pos' (by omega))
    refine ⟨0, x, by omega, Or.inl ⟨hle 100 (by omega), rfl⟩, fun j z => absurd z (by omega), hle 0 (by omega), fun j z => absurd z (by omega), fun j _ z => hle j (by omega)⟩
  · obtain ⟨q, hq, rfl⟩ := nI_of h0
    rcases Nat.lt_or_ge 100 q with z | z
    · refine ⟨100, 100, by omega, Or.inr ⟨nI_ge (a := 100) z hq, rfl⟩, fun j hj => nI_ge (b := 100) hj (by decide), (by decide), fun j hj => nI_ge (by omega) hq, fun j h1 h2 => absurd h1 (by omega)⟩
    · refine ⟨q, nI q, z, Or.inl ⟨nI_le (b := 100) z (by decide), rfl⟩, fun j hj => nI_ge hj hq, nI_le (Nat.le_refl q) hq, fun j hj => nI_ge hj hq, fun j h1 h2 => nI_le h1 (by omega)⟩
theorem i_vc_step {k : Nat} {u : SX} {v : SY} (I : i_Rel k u v) (hk : k + 5 ≤ 2560) (v1 : Int32) : wpX_step (fun r u' => wpY_step (fun r' v' => r' = r ∧ i_Rel (k + 5) u' v') v v1) u v1 := by
  obtain ⟨w, kn, op, cs, ne, be, fi, inp, la, nw, ha, nq, hw, rfl, rfl, hI⟩ := I
  obtain ⟨m, x2, hm, hx, hX1, hX2, hY1, hY2⟩ := st_cnt v1
  obtain ⟨be', fi', la', nw', ha', hI', hX, hY⟩ := st_run v1 x2 m hm hX1 hX2 hY1 hY2 kn op cs ne inp nq m 0 w be fi la nw ha (by omega) hI
  have Y : wpY_step (fun r' v' => r' = nI (w + m) ∧ i_Rel (k + 5) (nI (w + m), kn, op, cs, ne, be', inp, la', nw') v') (nI w, kn, op, cs, fi, inp, la, nw, ha, nq) v1 :=
    ⟨_, hY _ ⟨rfl, md_mk (by omega) hI'⟩⟩
  have X := hX (fun r u' => wpY_step (fun r' v' => r' = r ∧ i_Rel (k + 5) u' v') (nI w, kn, op, cs, fi, inp, la, nw, ha, nq) v1) Y
  rcases hx with ⟨hx, rfl⟩ | ⟨hx, rfl⟩
  · exact br_t hx ⟨_, X⟩
  · exact br_f hx ⟨_, X⟩
end
section
/-! ===== define: the tables ===== -/
theorem df_us (g : Nat → Int32) (f : Nat) (x : Int32) : upd g f x f = x := if_pos rfl
theorem df_un (g : Nat → Int32) {f j : Nat} (x : Int32) (h : j ≠ f) : upd g f x j = g j := if_neg h
theorem df_back (g : Nat → Int32) (f : Nat) (x : Int32) : upd (upd g f x) f (g f) = g := by
  funext j
  show (if j = f then g f else (if j = f then x else g j)) = g j
  by_cases e : j = f
  · rw [if_pos e, e]
  · rw [if_neg e, if_neg e]
section
variable {kn op ne nq : Nat → Int32} {k o : Int32} {f : Nat}
theorem df_rows (hA : ∀ j, j < 18 → mk_9 (kn j) ∧ mv_ok (kn j) (op j) ∧ ne j = mv_dr (kn j) (op j)) (hk : mk_9 k) (ho : mv_ok k o) : ∀ j, j < 18 → mk_9 (upd kn f k j) ∧ mv_ok (upd kn f k j) (upd op f o j) ∧ upd ne f (mv_dr k o) j = mv_dr (upd kn f k j) (upd op f o j) := by
  intro j hj
  by_cases e : j = f
  · subst e
    rw [df_us, df_us, df_us]
    exact ⟨hk, ho, rfl⟩
  · rw [df_un _ _ e, df_un _ _ e, df_un _ _ e]
    exact hA j hj
theorem df_pure (hf : f < 18) (hA : ∀ j, j < 18 → mk_9 (kn j) ∧ mv_ok (kn j) (op j) ∧ ne j = mv_dr (kn j) (op j)) (hC : mp_Ac (mx_D ne)) (hk : mk_9 k) (ho : mv_ok k o) :
    (bt (mx_cl ne 18 (mv_dr k o)) f = true → bt (wy_all 18 (yw_t (upd kn f k) (upd op f o) nq) f) f = true) ∧
    (bt (mx_cl ne 18 (mv_dr k o)) f = false → (∀ a, a < 18 → bt (wy_all 18 (yw_t (upd kn f k) (upd op f o) nq) a) a = false) ∧ wy_all 18 (yw_t (upd kn f k) (upd op f o) nq) f = mx_cl ne 18 (mv_dr k o) ∧ mp_Ac (mx_D (upd ne f (mv_dr k o)))) := by
  have hT := wy_TC (yw_t (upd kn f k) (upd op f o) nq)
  rw [md_tab (df_rows (f := f) hA hk ho)] at hT
  have hS := mx_LS ne (mv_dr k o) (mv_drIn hk ho) (md_in hA)
  have hne : ∀ a b, a ≠ f → (mx_D (upd ne f (mv_dr k o)) a b ↔ mx_D ne a b) := by
    intro a b e
    unfold mx_D
    rw [df_un _ _ e]
  have heq : ∀ b, mx_D (upd ne f (mv_dr k o)) f b ↔ bt (mv_dr k o) b = true := by
    intro b
    unfold mx_D
    rw [df_us]
    exact ⟨fun z => z.2, fun z => ⟨hf, z⟩⟩
  constructor
  · intro h
    exact (mp_def1 hne heq hS hT h).2
  · intro h
    obtain ⟨h1, h2, h3⟩ := mp_def2 hne heq hS hT hC (by rw [h]; decide)
    refine ⟨?_, ?_, h3⟩
    · intro a ha
      cases e : bt (wy_all 18 (yw_t (upd kn f k) (upd op f o) nq) a) a
      · rfl
      · exact absurd ⟨ha, e⟩ (h1 a)
    · apply b_ext
      intro i _
      have z := h2 i
      cases e : bt (mx_cl ne 18 (mv_dr k o)) i
      · cases e2 : bt (wy_all 18 (yw_t (upd kn f k) (upd op f o) nq) f) i
        · rfl
        · have := z.mp ⟨hf, e2⟩
          rw [e] at this
          exact absurd this (by decide)
      · exact (z.mpr e).2
end
/-! ===== define: the reference's roads ===== -/
theorem df_17 (x : Int32) : ((x &&& 31) ≤ 17) ↔ (x &&& 31).toNatClampNeg < 18 := by
  obtain ⟨j, hj, e⟩ := mo_31 x
  rw [e, nI_clamp (by omega)]
  have := nI_leI (a := j) (b := 17) (by omega) (by decide)
  exact ⟨fun z => by have := this.mp z; omega, fun z => this.mpr (by omega)⟩
theorem df_nb {k : Int32} (hk : mk_9 k) : (k = 2 ∨ k = 3 ∨ k = 4 ∨ k = 5 ∨ k = 6) ↔ (¬ k < 2 ∧ ¬ 6 < k) := by
  rcases hk with rfl | rfl | rfl | rfl | rfl | rfl | rfl | rfl | rfl <;> decide
theorem df_na {k : Int32} (hk : mk_9 k) : (k = 2 ∨ k = 3 ∨ k = 4 ∨ k = 5 ∨ k = 6 ∨ k = 7 ∨ k = 8) ↔ ¬ k ≤ 1 := by
  rcases hk with rfl | rfl | rfl | rfl | rfl | rfl | rfl | rfl | rfl <;> decide
section
variable (fw : Int32) (kn op cs fi inp la nw ha nq : Nat → Int32) (post : Int32 → SY → Prop) (x1 k o c : Int32)
theorem df_95b (x5 x6 z0 : Int32) (hz : ¬ (x5 = 0 ∧ x6 = 0 ∧ z0 = 0)) (h : post (-1) (fw, kn, op, cs, fi, inp, la, nw, ha, nq)) : wY_define_95 post x1 k o c x5 x6 z0 fw kn op cs fi inp la nw ha nq :=
  br_c (fun a => br_c (fun b => br_f (fun e => hz ⟨a, b, e⟩) h) (fun _ => h)) (fun _ => h)
theorem df_68 (x5 x6 : Int32) (hA : ((k = 6 ∨ k = 8) → (mo_s o).toNatClampNeg < 18) → wY_define_95 post x1 k o c x5 x6 0 fw kn op cs fi inp la nw ha nq) (hB : ¬ ((k = 6 ∨ k = 8) → (mo_s o).toNatClampNeg < 18) → wY_define_95 post x1 k o c x5 x6 1 fw kn op cs fi inp la nw ha nq) : wY_define_68 post x1 k o c x5 x6 fw kn op cs fi inp la nw ha nq := by
  have e17 : (((o >>> ((10 : Int32) &&& 31)) &&& 31) ≤ 17) ↔ (mo_s o).toNatClampNeg < 18 := df_17 _
  have both : (k = 6 ∨ k = 8) → (((((o >>> ((10 : Int32) &&& 31)) &&& 31) ≤ 17) → wY_define_94 post x1 k o c x5 x6 fw kn op cs fi inp la nw ha nq) ∧ (¬ (((o >>> ((10 : Int32) &&& 31)) &&& 31) ≤ 17) → wY_define_95 post x1 k o c x5 x6 1 fw kn op cs fi inp la nw ha nq)) :=
    fun hs => ⟨fun z => hA (fun _ => e17.mp z), fun z => hB (fun q => z (e17.mpr (q hs)))⟩
  unfold wY_define_68 wpY_namesS
  dsimp only
  exact br_c (fun e => br_f (by decide) (both (Or.inl e))) (fun e => br_c (fun e2 => br_f (by decide) (both (Or.inr e2))) (fun e2 => br_t rfl (hA (fun z => absurd z (fun y => y.elim e e2)))))
theorem df_42 (hk : mk_9 k) (x5 : Int32) (hA : ((k = 2 ∨ k = 3 ∨ k = 4 ∨ k = 5 ∨ k = 6) → (mo_b o).toNatClampNeg < 18) → wY_define_68 post x1 k o c x5 0 fw kn op cs fi inp la nw ha nq) (hB : ¬ ((k = 2 ∨ k = 3 ∨ k = 4 ∨ k = 5 ∨ k = 6) → (mo_b o).toNatClampNeg < 18) → wY_define_68 post x1 k o c x5 1 fw kn op cs fi inp la nw ha nq) : wY_define_42 post x1 k o c x5 fw kn op cs fi inp la nw ha nq := by
  have e17 : (((o >>> ((5 : Int32) &&& 31)) &&& 31) ≤ 17) ↔ (mo_b o).toNatClampNeg < 18 := df_17 _
  unfold wY_define_42 wpY_namesB
  dsimp only
  exact br_c (fun e => br_t rfl (hA (fun z => absurd e ((df_nb hk).mp z).1))) (fun e => br_c (fun e2 => br_t rfl (hA (fun z => absurd e2 ((df_nb hk).mp z).2))) (fun e2 => br_f (by decide) (br_c (fun z => hA (fun _ => e17.mp z)) (fun z => hB (fun q => z (e17.mpr (q ((df_nb hk).mpr ⟨e, e2⟩))))))))
theorem df_y (hk : mk_9 k) (h0 : ¬ k < 0) (h8 : k ≤ 8) (f : Nat) (hf : f < 18) (hok : mv_ok k o → wY_define_95 post (nI f) k o c 0 0 0 fw kn op cs fi inp la nw ha nq) (hbad : ¬ mv_ok k o → post (-1) (fw, kn, op, cs, fi, inp, la, nw, ha, nq)) : wpY_define post (fw, kn, op, cs, fi, inp, la, nw, ha, nq) (nI f) k o c := by
  have e17 : ((o &&& 31) ≤ 17) ↔ (mo_a o).toNatClampNeg < 18 := df_17 _
  have key : ∀ x5 : Int32, (x5 = 0 ↔ ((k = 2 ∨ k = 3 ∨ k = 4 ∨ k = 5 ∨ k = 6 ∨ k = 7 ∨ k = 8) → (mo_a o).toNatClampNeg < 18)) → wY_define_42 post (nI f) k o c x5 fw kn op cs fi inp la nw ha nq := by
    intro x5 h5
    have fin : ∀ x6 z0 : Int32, (x6 = 0 ↔ ((k = 2 ∨ k = 3 ∨ k = 4 ∨ k = 5 ∨ k = 6) → (mo_b o).toNatClampNeg < 18)) → (z0 = 0 ↔ ((k = 6 ∨ k = 8) → (mo_s o).toNatClampNeg < 18)) → wY_define_95 post (nI f) k o c x5 x6 z0 fw kn op cs fi inp la nw ha nq := by
      intro x6 z0 h6 hz
      by_cases ok : mv_ok k o
      · obtain rfl := h5.mpr ok.1
        obtain rfl := h6.mpr ok.2.1
        obtain rfl := hz.mpr ok.2.2
        exact hok ok
      · exact df_95b fw kn op cs fi inp la nw ha nq post (nI f) k o c x5 x6 z0 (fun z => ok ⟨h5.mp z.1, h6.mp z.2.1, hz.mp z.2.2⟩) (hbad ok)
    have s68 : ∀ x6 : Int32, (x6 = 0 ↔ ((k = 2 ∨ k = 3 ∨ k = 4 ∨ k = 5 ∨ k = 6) → (mo_b o).toNatClampNeg < 18)) → wY_define_68 post (nI f) k o c x5 x6 fw kn op cs fi inp la nw ha nq :=
      fun x6 h6 => df_68 fw kn op cs fi inp la nw ha nq post (nI f) k o c x5 x6 (fun z => fin x6 0 h6 ⟨fun _ => z, fun _ => rfl⟩) (fun z => fin x6 1 h6 ⟨fun y => absurd y (by decide), fun y => absurd y z⟩)
    exact df_42 fw kn op cs fi inp la nw ha nq post (nI f) k o c hk x5 (fun z => s68 0 ⟨fun _ => z, fun _ => rfl⟩) (fun z => s68 1 ⟨fun y => absurd y (by decide), fun y => absurd y z⟩)
  unfold wpY_define
  dsimp only
  exact fl_y0 hf (br_t rfl (br_f h0 (br_t h8 (br_c (fun z => key 0 ⟨fun _ y => absurd z ((df_na hk).mp y), fun _ => rfl⟩) (fun z => br_c (fun y => key 0 ⟨fun _ _ => e17.mp y, fun _ => rfl⟩) (fun y => key 1 ⟨fun q => absurd q (by decide), fun q => absurd (e17.mpr (q ((df_na hk).mpr z))) y⟩))))))
theorem df_95 (hkn : ∀ j, j < 18 → mk_9 (upd kn x1.toNatClampNeg k j)) (f : Nat) (hf : f < 18) (ex : x1 = nI f)
    (h1 : bt (wy_all 18 (yw_t (upd kn f k) (upd op f o) nq) f) f = true → post (-3) (fw, kn, op, cs, fi, inp, la, nw, ha, wy_all 18 (yw_t (upd kn f k) (upd op f o) nq)))
    (hc : (∃ a, a < 18 ∧ bt (wy_all 18 (yw_t (upd kn f k) (upd op f o) nq) a) a = true) → bt (wy_all 18 (yw_t (upd kn f k) (upd op f o) nq) f) f = true)
    (h0 : (∀ a, a < 18 → bt (wy_all 18 (yw_t (upd kn f k) (upd op f o) nq) a) a = false) → post (ms_n (wy_all 18 (yw_t (upd kn f k) (upd op f o) nq) f) 18) (fw, upd kn f k, upd op f o, upd cs f c, upd fi f 1, inp, la, nw, ha, wy_all 18 (yw_t (upd kn f k) (upd op f o) nq))) : wY_define_95 post x1 k o c 0 0 0 fw kn op cs fi inp la nw ha nq := by
  subst ex
  rw [mh_cl hf] at hkn
  refine br_t rfl (br_t rfl (br_t rfl ⟨mh_in hf, nm_e ⟨mh_in hf, nm_e ⟨mh_in hf, nm_e ⟨mh_in hf, nm_e ?_⟩⟩⟩⟩))
  rw [mh_cl hf]
  refine yw_circle fw (upd kn f k) (upd op f o) cs fi inp la nw ha nq _ hkn (fun z => br_f (by decide) ?_) (fun z => br_t rfl ?_)
  · refine ⟨mh_in hf, nm_r (df_back kn f k) ⟨mh_in hf, nm_r (df_back op f o) (h1 (hc z))⟩⟩
  · refine ⟨mh_in hf, nm_e ⟨mh_in hf, nm_r (e' := upd fi f 1) (by rw [mh_b1]) ⟨19, ?_⟩⟩⟩
    exact yw_191 fw (upd kn f k) (upd op f o) (upd cs f c) (upd fi f 1) inp la nw ha _ post f hf (h0 z) 18 0 rfl
end
theorem df_51 (post : Int32 → SX → Prop) (f : Nat) (hf : f < 18) (k o c z0 : Int32) (fw : Int32) (kn op cs ne be inp la nw : Nat → Int32) (h1 : bt (mx_cl ne 18 z0) f = true → post (-3) (fw, kn, op, cs, ne, be, inp, la, nw)) (h0 : bt (mx_cl ne 18 z0) f = false → post (ms_n (mx_cl ne 18 z0) 18) (fw, upd kn f k, upd op f o, upd cs f c, upd ne f z0, upd be f 0, inp, la, nw)) : wX_define_51 post (nI f) k o c z0 fw kn op cs ne be inp la nw := by
  unfold wX_define_51
  rw [mh_cl hf, mh_b0]
  refine xw_needs fw kn op cs ne be inp la nw _ z0 (xw_con hf (fun b => br_t rfl ?_) (fun b => br_f (by decide) (h1 b)))
  exact ⟨mh_in hf, nm_e ⟨mh_in hf, nm_e ⟨mh_in hf, nm_e ⟨mh_in hf, nm_e ⟨mh_in hf, nm_e (xw_size _ _ (h0 b))⟩⟩⟩⟩⟩
theorem df_x (post : Int32 → SX → Prop) (f : Nat) (hf : f < 18) (k o c : Int32) (hk : mk_9 k) (h0 : ¬ k < 0) (h8 : k ≤ 8) (fw : Int32) (kn op cs ne be inp la nw : Nat → Int32) (hok : mv_ok k o → wX_define_51 post (nI f) k o c (mv_dr k o) fw kn op cs ne be inp la nw) (hbad : ¬ mv_ok k o → post (-1) (fw, kn, op, cs, ne, be, inp, la, nw)) : wpX_define post (fw, kn, op, cs, ne, be, inp, la, nw) (nI f) k o c := by
  unfold wpX_define
  dsimp only
  refine fl_x1 hf (br_f (by decide) (br_f h0 (br_t h8 (xw_named _ k o hk (br_c (fun z => ?_) (fun z => hbad (fun y => z ?_)))))))
  · have H := hok ((mv_nmok hk).mp ((mt_u18 _).mp z))
    refine br_c (fun e => ?_) (fun e => ?_)
    · subst e
      have e0 : mv_dr 7 o = 0 := by
        unfold mv_dr
        rw [if_neg (by decide), if_neg (by decide), if_neg (by decide)]
      rw [e0] at H
      exact H
    · rw [show mv_nm k o = mv_dr k o from if_neg e]
      exact H
  · exact (mt_u18 _).mpr ((mv_nmok hk).mpr y)
theorem i_vc_define {k : Nat} {u : SX} {v : SY} (I : i_Rel k u v) (hk : k + 5 ≤ 2560) (v1 : Int32) (v2 : Int32) (v3 : Int32) (v4 : Int32) : wpX_define (fun r u' => wpY_define (fun r' v' => r' = r ∧ i_Rel (k + 5) u' v') v v1 v2 v3 v4) u v1 v2 v3 v4 := by
  have J := i_up I
  obtain ⟨w, kn, op, cs, ne, be, fi, inp, la, nw, ha, nq, hw, rfl, rfl, hI⟩ := I
  rcases fl_c v1 with ⟨f, hf, rfl⟩ | hb
  · by_cases h0 : v2 < 0
    · unfold wpX_define wpY_define
      dsimp only
      exact fl_x1 hf (br_f (by decide) (br_t h0 (fl_y0 hf (br_t rfl (br_t h0 ⟨rfl, J⟩)))))
    · by_cases h8 : v2 ≤ 8
      · have k9 := mk_of h0 h8
        refine df_x _ f hf v2 v3 v4 k9 h0 h8 _ kn op cs ne be inp la nw (fun ok => ?_) (fun bad => ?_)
        · have P := df_pure (nq := nq) hf hI.1 hI.2.2.1 k9 ok
          have rows := df_rows (f := f) hI.1 k9 ok
          refine df_51 _ f hf v2 v3 v4 (mv_dr v2 v3) _ kn op cs ne be inp la nw (fun b => ?_) (fun b => ?_)
          · have P1 := P.1 b
            refine df_y _ kn op cs fi inp la nw ha nq _ v2 v3 v4 k9 h0 h8 f hf (fun _ => ?_) (fun z => absurd ok z)
            refine df_95 _ kn op cs fi inp la nw ha nq _ (nI f) v2 v3 v4 ?_ f hf rfl (fun _ => ⟨rfl, md_mk (by omega) hI⟩) (fun _ => P1) (fun z => ?_)
            · rw [mh_cl hf]
              exact fun j hj => (rows j hj).1
            · have := z f hf
              rw [P1] at this
              exact absurd this (by decide)
          · obtain ⟨p1, p2, p3⟩ := P.2 b
            refine df_y _ kn op cs fi inp la nw ha nq _ v2 v3 v4 k9 h0 h8 f hf (fun _ => ?_) (fun z => absurd ok z)
            refine df_95 _ kn op cs fi inp la nw ha nq _ (nI f) v2 v3 v4 ?_ f hf rfl (fun z => ?_) (fun z => ?_) (fun _ => ⟨?_, md_mk (by omega) ⟨rows, ?_, p3, hI.2.2.2⟩⟩)
            · rw [mh_cl hf]
              exact fun j hj => (rows j hj).1
            · have := p1 f hf
              rw [z] at this
              exact absurd this (by decide)
            · obtain ⟨a, haa, hb⟩ := z
              have := p1 a haa
              rw [hb] at this
              exact absurd this (by decide)
            · rw [p2]
            · intro j hj
              by_cases e : j = f
              · subst e
                rw [df_us, df_us]
                exact ⟨fun _ => by decide, fun _ => rfl⟩
              · rw [df_un _ _ e, df_un _ _ e]
                exact hI.2.1 j hj
        · exact df_y _ kn op cs fi inp la nw ha nq _ v2 v3 v4 k9 h0 h8 f hf (fun ok => absurd ok bad) (fun _ => ⟨rfl, J⟩)
      · unfold wpX_define wpY_define
        dsimp only
        exact fl_x1 hf (br_f (by decide) (br_f h0 (br_f h8 (fl_y0 hf (br_t rfl (br_f h0 (br_f h8 ⟨rfl, J⟩)))))))
  · unfold wpX_define wpY_define
    dsimp only
    exact fl_x0 hb (br_t rfl (fl_y1 hb (br_f (by decide) ⟨rfl, J⟩)))
end
