/-! ===== circles and needs, of relations alone ===== -/
def mp_Cl (D : Nat → Nat → Prop) (S : Nat → Prop) : Prop := ∀ a b, S a → D a b → S b
def mp_Tr (R : Nat → Nat → Prop) : Prop := ∀ a b c, R a b → R b c → R a c
def mp_Le (D R : Nat → Nat → Prop) : Prop := ∀ a b, D a b → R a b
/-- T is the least transitive relation over D -/
def mp_TC (D T : Nat → Nat → Prop) : Prop := mp_Le D T ∧ mp_Tr T ∧ ∀ R, mp_Le D R → mp_Tr R → mp_Le T R
/-- S is the least D-closed set over B -/
def mp_LS (D : Nat → Nat → Prop) (B S : Nat → Prop) : Prop := (∀ a, B a → S a) ∧ mp_Cl D S ∧ ∀ S' : Nat → Prop, (∀ a, B a → S' a) → mp_Cl D S' → ∀ a, S a → S' a
/-- no circle -/
def mp_Ac (D : Nat → Nat → Prop) : Prop := ∃ T, mp_Le D T ∧ mp_Tr T ∧ ∀ a, ¬ T a a
def mp_R (D : Nat → Nat → Prop) : Nat → Nat → Prop := fun a b => ∀ R, mp_Le D R → mp_Tr R → R a b
theorem mp_RTC (D : Nat → Nat → Prop) : mp_TC D (mp_R D) :=
  ⟨fun a b h _ hl _ => hl a b h, fun a b c h1 h2 R hl ht => ht a b c (h1 R hl ht) (h2 R hl ht), fun R hl ht a b h => h R hl ht⟩
theorem mp_needs {D T : Nat → Nat → Prop} {S : Nat → Prop} {a : Nat} (hS : mp_LS D (D a) S) (hT : mp_TC D T) : ∀ b, T a b ↔ S b := by
  intro b
  constructor
  · intro h
    exact (hT.2.2 (fun x y => (x = a → S y) ∧ (S x → S y)) (fun x y d => ⟨fun e => hS.1 y (e ▸ d), fun s => hS.2.1 x y s d⟩) (fun x y z h1 h2 => ⟨fun e => h2.2 (h1.1 e), fun s => h2.2 (h1.2 s)⟩) a b h).1 rfl
  · exact hS.2.2 (fun y => T a y) (fun y h => hT.1 a y h) (fun x y h d => hT.2.1 a x y h (hT.1 x y d)) b
section
variable {D D' T : Nat → Nat → Prop} {B S : Nat → Prop} {f : Nat}
theorem mp_def1 (hne : ∀ a b, a ≠ f → (D' a b ↔ D a b)) (heq : ∀ b, D' f b ↔ B b) (hS : mp_LS D B S) (hT : mp_TC D' T) (h : S f) : T f f := by
  by_cases c : T f f
  · exact c
  · refine hS.2.2 (fun y => T f y) (fun y hy => hT.1 f y ((heq y).mpr hy)) ?_ f h
    intro x y hx d
    by_cases e : x = f
    · exact absurd (e ▸ hx) c
    · exact hT.2.1 f x y hx (hT.1 x y ((hne x y e).mpr d))
theorem mp_def2 (hne : ∀ a b, a ≠ f → (D' a b ↔ D a b)) (heq : ∀ b, D' f b ↔ B b) (hS : mp_LS D B S) (hT : mp_TC D' T) (hA : mp_Ac D) (h : ¬ S f) : (∀ a, ¬ T a a) ∧ (∀ b, T f b ↔ S b) ∧ mp_Ac D' := by
  obtain ⟨P, hP1, hP2, hP3⟩ := hA
  have hQ := mp_RTC D
  have hQi : ∀ a, ¬ mp_R D a a := fun a z => hP3 a (z P hP1 hP2)
  have hSQ : ∀ a b, mp_R D a b → S a → S b := fun a b z => z (fun x y => S x → S y) (fun x y d s => hS.2.1 x y s d) (fun x y z h1 h2 s => h2 (h1 s))
  have key : ∀ a b, T a b → mp_R D a b ∨ ((a = f ∨ mp_R D a f) ∧ S b) := by
    refine hT.2.2 (fun a b => mp_R D a b ∨ ((a = f ∨ mp_R D a f) ∧ S b)) ?_ ?_
    · intro a b d
      by_cases e : a = f
      · exact Or.inr ⟨Or.inl e, hS.1 b ((heq b).mp (e ▸ d))⟩
      · exact Or.inl (hQ.1 a b ((hne a b e).mp d))
    · intro a b c h1 h2
      rcases h1 with h1 | ⟨h1, s1⟩
      · rcases h2 with h2 | ⟨h2, s2⟩
        · exact Or.inl (hQ.2.1 a b c h1 h2)
        · refine Or.inr ⟨Or.inr ?_, s2⟩
          rcases h2 with h2 | h2
          · exact h2 ▸ h1
          · exact hQ.2.1 a b f h1 h2
      · rcases h2 with h2 | ⟨h2, s2⟩
        · exact Or.inr ⟨h1, hSQ b c h2 s1⟩
        · exact Or.inr ⟨h1, s2⟩
  have irr : ∀ a, ¬ T a a := by
    intro a z
    rcases key a a z with z | ⟨z, s⟩
    · exact hQi a z
    · rcases z with z | z
      · exact h (z ▸ s)
      · exact h (hSQ a f z s)
  refine ⟨irr, ?_, ⟨T, hT.1, hT.2.1, irr⟩⟩
  intro b
  constructor
  · intro z
    refine (hT.2.2 (fun x y => (x = f → S y) ∧ (S x → S y)) ?_ ?_ f b z).1 rfl
    · intro x y d
      constructor
      · intro e
        exact hS.1 y ((heq y).mp (e ▸ d))
      · intro s
        by_cases e : x = f
        · exact absurd (e ▸ s) h
        · exact hS.2.1 x y s ((hne x y e).mp d)
    · intro x y z h1 h2
      exact ⟨fun e => h2.2 (h1.1 e), fun s => h2.2 (h1.2 s)⟩
  · refine hS.2.2 (fun y => T f y) (fun y hy => hT.1 f y ((heq y).mpr hy)) ?_ b
    intro x y hx d
    by_cases e : x = f
    · exact absurd (e ▸ hx) (irr f)
    · exact hT.2.1 f x y hx (hT.1 x y ((hne x y e).mpr d))
end
/-! ===== counting ===== -/
def mc_n (s : Nat → Bool) : Nat → Nat
  | 0 => 0
  | n + 1 => mc_n s n + (if s n then 1 else 0)
theorem mc_top (s : Nat → Bool) : ∀ n, mc_n s n ≤ n := by
  intro n
  induction n with
  | zero => exact Nat.le_refl 0
  | succ n ih =>
    show mc_n s n + (if s n then 1 else 0) ≤ n + 1
    split <;> omega
theorem mc_le {s t : Nat → Bool} (h : ∀ i, s i = true → t i = true) : ∀ n, mc_n s n ≤ mc_n t n := by
  intro n
  induction n with
  | zero => exact Nat.le_refl 0
  | succ n ih =>
    show mc_n s n + (if s n then 1 else 0) ≤ mc_n t n + (if t n then 1 else 0)
    have := h n
    cases hs : s n
    · simp; omega
    · simp [this hs, ih]
theorem mc_lt {s t : Nat → Bool} (h : ∀ i, s i = true → t i = true) {j : Nat} (ht : t j = true) (hs : s j = false) : ∀ n, j < n → mc_n s n < mc_n t n := by
  intro n
  induction n with
  | zero => intro z; omega
  | succ n ih =>
    intro hj
    show mc_n s n + (if s n then 1 else 0) < mc_n t n + (if t n then 1 else 0)
    by_cases e : j = n
    · subst e
      have := mc_le h j
      simp [ht, hs]; omega
    · have i1 := ih (by omega)
      have := h n
      cases hs : s n
      · simp; omega
      · simp [this hs, i1]
theorem mc_pos {s : Nat → Bool} {j : Nat} (hs : s j = true) : ∀ n, j < n → 1 ≤ mc_n s n := by
  intro n
  induction n with
  | zero => intro z; omega
  | succ n ih =>
    intro hj
    show 1 ≤ mc_n s n + (if s n then 1 else 0)
    by_cases e : j = n
    · subst e; simp [hs]
    · have := ih (by omega); omega
/-! ===== the component's rounds: one pass, eighteen passes ===== -/
def mx_pass (nd : Nat → Int32) : Nat → Int32 → Int32
  | 0, s => s
  | f + 1, s => if bt (mx_pass nd f s) f = true then mx_pass nd f s ||| nd f else mx_pass nd f s
def mx_cl (nd : Nat → Int32) : Nat → Int32 → Int32
  | 0, s => s
  | r + 1, s => mx_pass nd 18 (mx_cl nd r s)
def mx_D (nd : Nat → Int32) : Nat → Nat → Prop := fun a b => a < 18 ∧ bt (nd a) b = true
theorem mx_mono (nd : Nat → Int32) (s : Int32) : ∀ f i, bt s i = true → bt (mx_pass nd f s) i = true := by
  intro f
  induction f with
  | zero => intro i h; exact h
  | succ f ih =>
    intro i h
    have := ih i h
    show bt (if bt (mx_pass nd f s) f = true then mx_pass nd f s ||| nd f else mx_pass nd f s) i = true
    split
    · rw [b_or, this]; rfl
    · exact this
theorem mx_take (nd : Nat → Int32) (s : Int32) : ∀ f g h, g < f → bt s g = true → bt (nd g) h = true → bt (mx_pass nd f s) h = true := by
  intro f
  induction f with
  | zero => intro g h hg; omega
  | succ f ih =>
    intro g h hg h1 h2
    show bt (if bt (mx_pass nd f s) f = true then mx_pass nd f s ||| nd f else mx_pass nd f s) h = true
    by_cases e : g = f
    · subst e
      rw [if_pos (mx_mono nd s g g h1), b_or, h2]
      simp
    · have := ih g h (by omega) h1 h2
      split
      · rw [b_or, this]; rfl
      · exact this
theorem mx_least (nd : Nat → Int32) (s : Int32) (S : Nat → Prop) (hB : ∀ i, bt s i = true → S i) (hC : mp_Cl (mx_D nd) S) : ∀ f, f ≤ 18 → ∀ i, bt (mx_pass nd f s) i = true → S i := by
  intro f
  induction f with
  | zero => intro _ i h; exact hB i h
  | succ f ih =>
    intro hf i
    show bt (if bt (mx_pass nd f s) f = true then mx_pass nd f s ||| nd f else mx_pass nd f s) i = true → S i
    by_cases c : bt (mx_pass nd f s) f = true
    · rw [if_pos c, b_or]
      intro h
      rcases (Bool.or_eq_true _ _).mp h with h | h
      · exact ih (by omega) i h
      · exact hC f i (ih (by omega) f c) ⟨by omega, h⟩
    · rw [if_neg c]
      exact ih (by omega) i
theorem mx_clMono (nd : Nat → Int32) (s : Int32) : ∀ r i, bt s i = true → bt (mx_cl nd r s) i = true := by
  intro r
  induction r with
  | zero => intro i h; exact h
  | succ r ih => intro i h; exact mx_mono nd _ 18 i (ih i h)
theorem mx_clLeast (nd : Nat → Int32) (s : Int32) (S : Nat → Prop) (hB : ∀ i, bt s i = true → S i) (hC : mp_Cl (mx_D nd) S) : ∀ r i, bt (mx_cl nd r s) i = true → S i := by
  intro r
  induction r with
  | zero => intro i h; exact hB i h
  | succ r ih => intro i h; exact mx_least nd _ S ih hC 18 (Nat.le_refl 18) i h
theorem mx_clIn (nd : Nat → Int32) (s : Int32) (hs : ∀ i, bt s i = true → i < 18) (hn : ∀ a, a < 18 → ∀ i, bt (nd a) i = true → i < 18) : ∀ r i, bt (mx_cl nd r s) i = true → i < 18 :=
  mx_clLeast nd s (fun i => i < 18) hs (fun a b _ d => hn a d.1 b d.2)
theorem mx_grow (nd : Nat → Int32) (s : Int32) (hs : ∀ i, bt s i = true → i < 18) (hn : ∀ a, a < 18 → ∀ i, bt (nd a) i = true → i < 18) : ∀ r, mp_Cl (mx_D nd) (fun i => bt (mx_cl nd r s) i = true) ∨ r + 1 ≤ mc_n (bt (mx_cl nd r s)) 18 := by
  intro r
  induction r with
  | zero =>
    by_cases c : ∃ i, bt s i = true
    · obtain ⟨i, hi⟩ := c
      exact Or.inr (mc_pos hi 18 (hs i hi))
    · exact Or.inl (fun a b h _ => absurd ⟨a, h⟩ c)
  | succ r ih =>
    by_cases c : mp_Cl (mx_D nd) (fun i => bt (mx_cl nd r s) i = true)
    · left
      intro a b ha d
      have ha' := mx_least nd (mx_cl nd r s) (fun i => bt (mx_cl nd r s) i = true) (fun i h => h) c 18 (Nat.le_refl 18) a ha
      exact mx_mono nd _ 18 b (c a b ha' d)
    · right
      have h1 : r + 1 ≤ mc_n (bt (mx_cl nd r s)) 18 := by
        rcases ih with ih | ih
        · exact absurd ih c
        · exact ih
      have h2 : ∃ a b, bt (mx_cl nd r s) a = true ∧ mx_D nd a b ∧ ¬ bt (mx_cl nd r s) b = true := by
        apply Classical.byContradiction
        intro z
        apply c
        intro a b ha d
        apply Classical.byContradiction
        intro y
        exact z ⟨a, b, ha, d, y⟩
      obtain ⟨a, b, ha, d, hb⟩ := h2
      have h3 : mc_n (bt (mx_cl nd r s)) 18 < mc_n (bt (mx_cl nd (r + 1) s)) 18 :=
        mc_lt (fun i h => mx_mono nd _ 18 i h) (j := b) (mx_take nd _ 18 a b d.1 ha d.2) (by cases e : bt (mx_cl nd r s) b <;> simp_all) 18 (hn a d.1 b d.2)
      omega
theorem mx_LS (nd : Nat → Int32) (s : Int32) (hs : ∀ i, bt s i = true → i < 18) (hn : ∀ a, a < 18 → ∀ i, bt (nd a) i = true → i < 18) : mp_LS (mx_D nd) (fun i => bt s i = true) (fun i => bt (mx_cl nd 18 s) i = true) := by
  refine ⟨mx_clMono nd s 18, ?_, fun S hB hC => mx_clLeast nd s S hB hC 18⟩
  rcases mx_grow nd s hs hn 18 with h | h
  · exact h
  · have := mc_top (bt (mx_cl nd 18 s)) 18
    omega
/-! ===== the reference's rounds: Warshall, in place ===== -/
def wy_col (k : Nat) : Nat → (Nat → Int32) → (Nat → Int32)
  | 0, m => m
  | f + 1, m => if bt (wy_col k f m f) k = true then upd (wy_col k f m) f (wy_col k f m f ||| wy_col k f m k) else wy_col k f m
def wy_all : Nat → (Nat → Int32) → (Nat → Int32)
  | 0, m => m
  | k + 1, m => wy_col k 18 (wy_all k m)
theorem wy_colV (k : Nat) (m : Nat → Int32) : ∀ i j, wy_col k i m j = if j < i then (if bt (m j) k = true then m j ||| m k else m j) else m j := by
  intro i
  induction i with
  | zero => intro j; rfl
  | succ i ih =>
    intro j
    have hi : wy_col k i m i = m i := by rw [ih, if_neg (by omega)]
    have hk : wy_col k i m k = m k := by
      rw [ih]
      split
      · split
        · exact b_ext (fun q _ => by rw [b_or, Bool.or_self])
        · rfl
      · rfl
    show (if bt (wy_col k i m i) k = true then upd (wy_col k i m) i (wy_col k i m i ||| wy_col k i m k) else wy_col k i m) j = _
    rw [hi, hk]
    by_cases c : bt (m i) k = true
    · rw [if_pos c]
      show (if j = i then m i ||| m k else wy_col k i m j) = _
      by_cases e : j = i
      · subst e
        rw [if_pos rfl, if_pos (by omega), if_pos c]
      · rw [if_neg e, ih]
        by_cases z : j < i
        · rw [if_pos z, if_pos (show j < i + 1 by omega)]
        · rw [if_neg z, if_neg (show ¬ j < i + 1 by omega)]
    · rw [if_neg c, ih]
      by_cases e : j = i
      · subst e
        rw [if_neg (by omega), if_pos (by omega), if_neg c]
      · by_cases z : j < i
        · rw [if_pos z, if_pos (show j < i + 1 by omega)]
        · rw [if_neg z, if_neg (show ¬ j < i + 1 by omega)]
theorem wy_step (k : Nat) (m : Nat → Int32) {a : Nat} (ha : a < 18) (b : Nat) : bt (wy_col k 18 m a) b = true ↔ (bt (m a) b = true ∨ (bt (m a) k = true ∧ bt (m k) b = true)) := by
  rw [wy_colV, if_pos ha]
  by_cases c : bt (m a) k = true
  · rw [if_pos c, b_or, Bool.or_eq_true]
    exact ⟨fun h => h.elim Or.inl (fun h => Or.inr ⟨c, h⟩), fun h => h.elim Or.inl (fun h => Or.inr h.2)⟩
  · rw [if_neg c]
    exact ⟨Or.inl, fun h => h.elim id (fun h => absurd h.1 c)⟩
theorem wy_tr (m : Nat → Int32) : ∀ k, k ≤ 18 → ∀ a b c, a < 18 → b < k → bt (wy_all k m a) b = true → bt (wy_all k m b) c = true → bt (wy_all k m a) c = true := by
  intro k
  induction k with
  | zero => intro _ a b c _ hb; omega
  | succ k ih =>
    intro hk a b c ha hb h1 h2
    have I := ih (by omega)
    have h1' := (wy_step k (wy_all k m) ha b).mp h1
    have h2' := (wy_step k (wy_all k m) (show b < 18 by omega) c).mp h2
    apply (wy_step k (wy_all k m) ha c).mpr
    by_cases e : b = k
    · subst e
      have u1 : bt (wy_all b m a) b = true := h1'.elim id (fun h => h.1)
      have u2 : bt (wy_all b m b) c = true := h2'.elim id (fun h => h.2)
      exact Or.inr ⟨u1, u2⟩
    · have hb' : b < k := by omega
      rcases h1' with h1' | ⟨p1, p2⟩
      · rcases h2' with h2' | ⟨q1, q2⟩
        · exact Or.inl (I a b c ha hb' h1' h2')
        · exact Or.inr ⟨I a b k ha hb' h1' q1, q2⟩
      · rcases h2' with h2' | ⟨q1, q2⟩
        · exact Or.inr ⟨p1, I k b c (by omega) hb' p2 h2'⟩
        · exact Or.inr ⟨p1, q2⟩
theorem wy_ge (m : Nat → Int32) : ∀ k a b, a < 18 → bt (m a) b = true → bt (wy_all k m a) b = true := by
  intro k
  induction k with
  | zero => intro a b _ h; exact h
  | succ k ih => intro a b ha h; exact (wy_step k (wy_all k m) ha b).mpr (Or.inl (ih a b ha h))
theorem wy_least (m : Nat → Int32) (R : Nat → Nat → Prop) (hl : mp_Le (mx_D m) R) (ht : mp_Tr R) : ∀ k, k ≤ 18 → ∀ a b, a < 18 → bt (wy_all k m a) b = true → R a b := by
  intro k
  induction k with
  | zero => intro _ a b ha h; exact hl a b ⟨ha, h⟩
  | succ k ih =>
    intro hk a b ha h
    rcases (wy_step k (wy_all k m) ha b).mp h with h | ⟨h1, h2⟩
    · exact ih (by omega) a b ha h
    · exact ht a k b (ih (by omega) a k ha h1) (ih (by omega) k b (by omega) h2)
theorem wy_TC (m : Nat → Int32) : mp_TC (mx_D m) (mx_D (wy_all 18 m)) :=
  ⟨fun a b h => ⟨h.1, wy_ge m 18 a b h.1 h.2⟩, fun a b c h1 h2 => ⟨h1.1, wy_tr m 18 (Nat.le_refl 18) a b c h1.1 h2.1 h1.2 h2.2⟩, fun R hl ht a b h => wy_least m R hl ht 18 (Nat.le_refl 18) a b h.1 h.2⟩
