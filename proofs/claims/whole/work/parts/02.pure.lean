/-! counts, some, least, greatest, sums below m -/
def pm_cn (S : Nat → Bool) : Nat → Nat
  | 0 => 0
  | m + 1 => if S m = true then pm_cn S m + 1 else pm_cn S m
theorem pm_cn_le (S : Nat → Bool) : ∀ m, pm_cn S m ≤ m := by
  intro m
  induction m with
  | zero => exact Nat.le_refl 0
  | succ m ih =>
    show (if S m = true then pm_cn S m + 1 else pm_cn S m) ≤ m + 1
    split <;> omega
theorem pm_cn_c {S T : Nat → Bool} : ∀ {m : Nat}, (∀ i, i < m → S i = T i) → pm_cn S m = pm_cn T m := by
  intro m
  induction m with
  | zero => intro _; rfl
  | succ m ih =>
    intro h
    show (if S m = true then pm_cn S m + 1 else pm_cn S m) = (if T m = true then pm_cn T m + 1 else pm_cn T m)
    rw [ih (fun i hi => h i (by omega)), h m (by omega)]
theorem pm_cn_0 (S : Nat → Bool) : ∀ m, pm_cn S m = 0 ↔ ∀ i, i < m → S i = false := by
  intro m
  induction m with
  | zero => exact ⟨fun _ i hi => absurd hi (by omega), fun _ => rfl⟩
  | succ m ih =>
    by_cases h : S m = true
    · have e : pm_cn S (m + 1) = pm_cn S m + 1 := if_pos h
      rw [e]
      exact ⟨fun z => absurd z (by omega), fun z => absurd (z m (by omega)) (by rw [h]; decide)⟩
    · have e : pm_cn S (m + 1) = pm_cn S m := if_neg h
      rw [e, ih]
      constructor
      · intro z i hi
        by_cases hm : i = m
        · subst hm; exact ts_nt h
        · exact z i (by omega)
      · exact fun z i hi => z i (by omega)
def pm_ex (P : Nat → Bool) : Nat → Bool
  | 0 => false
  | m + 1 => pm_ex P m || P m
theorem pm_ex_t (P : Nat → Bool) : ∀ m, pm_ex P m = true ↔ ∃ i, i < m ∧ P i = true := by
  intro m
  induction m with
  | zero => exact ⟨fun z => Bool.noConfusion (show false = true from z), fun ⟨i, hi, _⟩ => absurd hi (by omega)⟩
  | succ m ih =>
    show (pm_ex P m || P m) = true ↔ _
    rw [Bool.or_eq_true, ih]
    constructor
    · rintro (⟨i, hi, h⟩ | h)
      · exact ⟨i, by omega, h⟩
      · exact ⟨m, by omega, h⟩
    · rintro ⟨i, hi, h⟩
      by_cases hm : i = m
      · subst hm; exact Or.inr h
      · exact Or.inl ⟨i, by omega, h⟩
theorem pm_ex_f (P : Nat → Bool) (m : Nat) : pm_ex P m = false ↔ ∀ i, i < m → P i = false := by
  constructor
  · intro h i hi
    cases hp : P i
    · rfl
    · exact absurd ((pm_ex_t P m).mpr ⟨i, hi, hp⟩) (by rw [h]; decide)
  · intro h
    cases hp : pm_ex P m
    · rfl
    · obtain ⟨i, hi, h2⟩ := (pm_ex_t P m).mp hp
      exact absurd h2 (by rw [h i hi]; decide)
theorem pm_ex_c {P Q : Nat → Bool} {m : Nat} (h : ∀ i, i < m → P i = Q i) : pm_ex P m = pm_ex Q m := by
  induction m with
  | zero => rfl
  | succ m ih =>
    show (pm_ex P m || P m) = (pm_ex Q m || Q m)
    rw [ih (fun i hi => h i (by omega)), h m (by omega)]
theorem pm_beq {a b : Bool} (h : a = true ↔ b = true) : a = b := by
  cases a <;> cases b
  · rfl
  · exact absurd (h.mpr rfl) (by decide)
  · exact absurd (h.mp rfl) (by decide)
  · rfl
def pm_mn (C : Nat → Bool) (D : Nat → Nat) (z : Nat) : Nat → Nat
  | 0 => z
  | m + 1 => if C m = true then (if D m < pm_mn C D z m then D m else pm_mn C D z m) else pm_mn C D z m
theorem pm_mn_s (C : Nat → Bool) (D : Nat → Nat) (z m : Nat) : pm_mn C D z (m + 1) = if C m = true then (if D m < pm_mn C D z m then D m else pm_mn C D z m) else pm_mn C D z m := rfl
theorem pm_mn_z (C : Nat → Bool) (D : Nat → Nat) (z : Nat) : ∀ m, pm_mn C D z m ≤ z := by
  intro m
  induction m with
  | zero => exact Nat.le_refl z
  | succ m ih => rw [pm_mn_s]; split <;> (try split) <;> omega
theorem pm_mn_le (C : Nat → Bool) (D : Nat → Nat) (z : Nat) : ∀ m i, i < m → C i = true → pm_mn C D z m ≤ D i := by
  intro m
  induction m with
  | zero => intro i hi; omega
  | succ m ih =>
    intro i hi hC
    rw [pm_mn_s]
    by_cases hm : i = m
    · subst hm; rw [if_pos hC]; split <;> omega
    · have := ih i (by omega) hC
      split <;> (try split) <;> omega
theorem pm_mn_at (C : Nat → Bool) (D : Nat → Nat) (z : Nat) : ∀ m, pm_mn C D z m = z ∨ ∃ i, i < m ∧ C i = true ∧ pm_mn C D z m = D i := by
  intro m
  induction m with
  | zero => exact Or.inl rfl
  | succ m ih =>
    rw [pm_mn_s]
    have keep : pm_mn C D z m = z ∨ ∃ i, i < m + 1 ∧ C i = true ∧ pm_mn C D z m = D i := by
      rcases ih with h | ⟨i, hi, h1, h2⟩
      · exact Or.inl h
      · exact Or.inr ⟨i, by omega, h1, h2⟩
    split
    · next hC =>
      split
      · exact Or.inr ⟨m, by omega, hC, rfl⟩
      · exact keep
    · exact keep
theorem pm_mn_ge (C : Nat → Bool) (D : Nat → Nat) {z k m : Nat} (hz : k ≤ z) (h : ∀ i, i < m → C i = true → k ≤ D i) : k ≤ pm_mn C D z m := by
  rcases pm_mn_at C D z m with e | ⟨i, hi, h1, h2⟩
  · omega
  · rw [h2]; exact h i hi h1
theorem pm_mn_c {C C' : Nat → Bool} {D D' : Nat → Nat} {z : Nat} : ∀ {m : Nat}, (∀ i, i < m → C i = C' i) → (∀ i, i < m → D i = D' i) → pm_mn C D z m = pm_mn C' D' z m := by
  intro m
  induction m with
  | zero => intro _ _; rfl
  | succ m ih =>
    intro h h'
    rw [pm_mn_s, pm_mn_s, ih (fun i hi => h i (by omega)) (fun i hi => h' i (by omega)), h m (by omega), h' m (by omega)]
theorem pm_mn_iff {C : Nat → Bool} {D : Nat → Nat} {z m w : Nat} (hz : ∀ i, i < m → C i = true → D i ≤ z) (hw : w < m) (hC : C w = true) : D w = pm_mn C D z m ↔ ∀ i, i < m → C i = true → D w ≤ D i := by
  constructor
  · intro h i hi hi2
    rw [h]; exact pm_mn_le C D z m i hi hi2
  · intro h
    have h1 := pm_mn_le C D z m w hw hC
    have h2 := pm_mn_ge C D (z := z) (k := D w) (m := m) (hz w hw hC) h
    omega
def pm_mx (C : Nat → Bool) (D : Nat → Nat) : Nat → Nat
  | 0 => 0
  | m + 1 => if C m = true then (if pm_mx C D m < D m then D m else pm_mx C D m) else pm_mx C D m
def pm_sm (f : Nat → Nat) : Nat → Nat
  | 0 => 0
  | m + 1 => pm_sm f m + f m
theorem pm_sm_c {f g : Nat → Nat} : ∀ {m : Nat}, (∀ i, i < m → f i = g i) → pm_sm f m = pm_sm g m := by
  intro m
  induction m with
  | zero => intro _; rfl
  | succ m ih =>
    intro h
    show pm_sm f m + f m = pm_sm g m + g m
    rw [ih (fun i hi => h i (by omega)), h m (by omega)]
theorem pm_sm_0 (f : Nat → Nat) : ∀ m, pm_sm f (m + 1) = f 0 + pm_sm (fun i => f (i + 1)) m := by
  intro m
  induction m with
  | zero => exact Nat.add_comm _ _
  | succ m ih =>
    show pm_sm f (m + 1) + f (m + 1) = f 0 + (pm_sm (fun i => f (i + 1)) m + f (m + 1))
    rw [ih, Nat.add_assoc]
theorem pm_sm_rev (f : Nat → Nat) : ∀ m, pm_sm f m = pm_sm (fun i => f (m - (i + 1))) m := by
  intro m
  induction m with
  | zero => rfl
  | succ m ih =>
    rw [pm_sm_0 (fun i => f (m + 1 - (i + 1))) m]
    show pm_sm f m + f m = f (m + 1 - (0 + 1)) + pm_sm (fun i => f (m + 1 - (i + 1 + 1))) m
    rw [ih, show m + 1 - (0 + 1) = m by omega, Nat.add_comm, pm_sm_c (f := fun i => f (m + 1 - (i + 1 + 1))) (g := fun i => f (m - (i + 1)))]
    intro i _
    exact congrArg f (by omega)
theorem pm_sm_le (f : Nat → Nat) (c : Nat) : ∀ m, (∀ i, i < m → f i ≤ c) → pm_sm f m ≤ m * c := by
  intro m
  induction m with
  | zero => intro _; exact Nat.zero_le _
  | succ m ih =>
    intro h
    show pm_sm f m + f m ≤ (m + 1) * c
    have h1 := ih (fun i hi => h i (by omega))
    have h2 := h m (by omega)
    rw [Nat.add_mul]; omega
/-! distances of worlds -/
def pm_pc (n z : Nat) : Nat := pm_cn (fun v => Nat.testBit z v) n
theorem pm_pc_le (n z : Nat) : pm_pc n z ≤ n := pm_cn_le _ _
theorem pm_pc1 : ∀ n, n < 7 → ∀ z, z < 2 ^ n → ∀ v, v < n → pm_pc n z ≤ pm_pc n (z ^^^ 2 ^ v) + 1 := by decide +kernel
theorem pm_pc2 : ∀ n, n < 7 → ∀ z, z < 2 ^ n → pm_pc n z = 0 ∨ pm_ex (fun v => decide (pm_pc n (z ^^^ 2 ^ v) + 1 = pm_pc n z)) n = true := by decide +kernel
theorem pm_pc0 : ∀ n, n < 7 → ∀ z, z < 2 ^ n → (pm_pc n z ≤ 0 ↔ z = 0) := by decide +kernel
theorem pm_xlt {n a b : Nat} (ha : a < 2 ^ n) (hb : b < 2 ^ n) : a ^^^ b < 2 ^ n := Nat.xor_lt_two_pow ha hb
theorem pm_plt {n v : Nat} (h : v < n) : 2 ^ v < 2 ^ n := Nat.pow_lt_pow_right (by decide) h
theorem pm_x0 {a b : Nat} : a ^^^ b = 0 ↔ a = b := by
  constructor
  · intro h
    have e : (a ^^^ b) ^^^ b = a := by rw [Nat.xor_assoc, Nat.xor_self, Nat.xor_zero]
    rw [h, Nat.zero_xor] at e
    exact e.symm
  · intro h; rw [h, Nat.xor_self]
/-- the distance of the world u from the set S -/
def pm_ds (n : Nat) (S : Nat → Bool) (u : Nat) : Nat := pm_mn S (fun w => pm_pc n (u ^^^ w)) (n + 1) (2 ^ n)
theorem pm_ds_z (n : Nat) (S : Nat → Bool) (u : Nat) : pm_ds n S u ≤ n + 1 := pm_mn_z _ _ _ _
theorem pm_ds_le {n : Nat} {S : Nat → Bool} {u w : Nat} (hw : w < 2 ^ n) (hS : S w = true) : pm_ds n S u ≤ pm_pc n (u ^^^ w) := pm_mn_le S (fun w => pm_pc n (u ^^^ w)) _ _ w hw hS
theorem pm_ds_n {n : Nat} {S : Nat → Bool} {u w : Nat} (hw : w < 2 ^ n) (hS : S w = true) : pm_ds n S u ≤ n := Nat.le_trans (pm_ds_le hw hS) (pm_pc_le _ _)
theorem pm_ds_ge {n : Nat} {S : Nat → Bool} {u k : Nat} (hk : k ≤ n + 1) (h : ∀ w, w < 2 ^ n → S w = true → k ≤ pm_pc n (u ^^^ w)) : k ≤ pm_ds n S u := pm_mn_ge S _ hk h
/-- the worlds within k of u -/
def pm_wk (n u k : Nat) : Nat → Bool := fun w => decide (pm_pc n (u ^^^ w) ≤ k)
def pm_wd (S : Nat → Bool) : Nat → Nat → Bool
  | 0 => S
  | m + 1 => fun w => pm_wd S m w || S (w ^^^ 2 ^ m)
theorem pm_wd_ex (S : Nat → Bool) (w : Nat) : ∀ m, pm_wd S m w = (S w || pm_ex (fun v => S (w ^^^ 2 ^ v)) m) := by
  intro m
  induction m with
  | zero => exact (Bool.or_false _).symm
  | succ m ih =>
    show (pm_wd S m w || S (w ^^^ 2 ^ m)) = (S w || (pm_ex (fun v => S (w ^^^ 2 ^ v)) m || S (w ^^^ 2 ^ m)))
    rw [ih, Bool.or_assoc]
theorem pm_wd_wk {n u w k : Nat} (hn : n < 7) (hu : u < 2 ^ n) (hw : w < 2 ^ n) : pm_wd (pm_wk n u k) n w = pm_wk n u (k + 1) w := by
  rw [pm_wd_ex]
  apply pm_beq
  have hz : u ^^^ w < 2 ^ n := pm_xlt hu hw
  rw [Bool.or_eq_true, pm_ex_t]
  unfold pm_wk
  simp only [decide_eq_true_eq, ← Nat.xor_assoc]
  generalize u ^^^ w = z at hz
  constructor
  · rintro (h | ⟨v, hv, h⟩)
    · omega
    · have := pm_pc1 n hn z hz v hv
      omega
  · intro h
    by_cases h1 : pm_pc n z ≤ k
    · exact Or.inl h1
    · rcases pm_pc2 n hn z hz with h2 | h2
      · omega
      · obtain ⟨v, hv, h3⟩ := (pm_ex_t _ _).mp h2
        have h4 := of_decide_eq_true h3
        exact Or.inr ⟨v, hv, by omega⟩
theorem pm_wk0 {n u w : Nat} (hn : n < 7) (hu : u < 2 ^ n) (hw : w < 2 ^ n) : pm_wk n u 0 w = decide (u = w) := by
  apply pm_beq
  unfold pm_wk
  rw [decide_eq_true_eq, decide_eq_true_eq, pm_pc0 n hn _ (pm_xlt hu hw), pm_x0]
/-! the nearest -/
def pm_nr (C : Nat → Bool) (D : Nat → Nat) (z i : Nat) : Nat → Bool := fun w => decide (w < i) && (C w && decide (D w = pm_mn C D z i))
theorem pm_nr_skip {C : Nat → Bool} {D : Nat → Nat} {z i : Nat} (h : C i = false ∨ pm_mn C D z i < D i) (w : Nat) : pm_nr C D z (i + 1) w = pm_nr C D z i w := by
  have e : pm_mn C D z (i + 1) = pm_mn C D z i := by
    rw [pm_mn_s]
    rcases h with h | h
    · rw [if_neg (by rw [h]; decide)]
    · split
      · rw [if_neg (by omega)]
      · rfl
  unfold pm_nr
  rw [e, bb_lts]
  by_cases hw : i = w
  · subst hw
    rw [decide_eq_false (Nat.lt_irrefl i), Bool.false_and]
    rcases h with h | h
    · rw [h, Bool.false_and, Bool.and_false]
    · rw [decide_eq_false (show ¬ D i = pm_mn C D z i by omega), Bool.and_false, Bool.and_false]
  · rw [decide_eq_false hw, Bool.or_false]
theorem pm_nr_eq {C : Nat → Bool} {D : Nat → Nat} {z i : Nat} (hC : C i = true) (h : D i = pm_mn C D z i) (w : Nat) : pm_nr C D z (i + 1) w = (pm_nr C D z i w || decide (i = w)) := by
  have e : pm_mn C D z (i + 1) = pm_mn C D z i := by rw [pm_mn_s, if_pos hC, if_neg (by omega)]
  unfold pm_nr
  rw [e, bb_lts]
  by_cases hw : i = w
  · subst hw
    rw [decide_eq_true (rfl : i = i), hC, decide_eq_true h, Bool.or_true, Bool.or_true]; rfl
  · rw [decide_eq_false hw, Bool.or_false, Bool.or_false]
theorem pm_nr_lt {C : Nat → Bool} {D : Nat → Nat} {z i : Nat} (hC : C i = true) (h : D i < pm_mn C D z i) (w : Nat) : pm_nr C D z (i + 1) w = decide (i = w) := by
  have e : pm_mn C D z (i + 1) = D i := by rw [pm_mn_s, if_pos hC, if_pos h]
  unfold pm_nr
  rw [e, bb_lts]
  by_cases hw : i = w
  · subst hw
    rw [decide_eq_true (rfl : i = i), hC, decide_eq_true (rfl : D i = D i), Bool.or_true]; rfl
  · rw [decide_eq_false hw, Bool.or_false]
    by_cases h1 : w < i
    · cases h2 : C w
      · rw [Bool.false_and, Bool.and_false]
      · have := pm_mn_le C D z i w h1 h2
        rw [decide_eq_false (show ¬ D w = D i by omega), Bool.and_false, Bool.and_false]
    · rw [decide_eq_false h1, Bool.false_and]
theorem pm_near {C : Nat → Bool} {D E : Nat → Nat} {z y m w : Nat} (hz : ∀ i, i < m → D i ≤ z) (hy : ∀ i, i < m → E i ≤ y) (hDE : ∀ i j, i < m → j < m → (D i ≤ D j ↔ E i ≤ E j)) (hw : w < m) : pm_nr C D z m w = (C w && decide (E w = pm_mn C E y m)) := by
  unfold pm_nr
  rw [decide_eq_true hw, Bool.true_and]
  cases hC : C w
  · rfl
  · rw [Bool.true_and, Bool.true_and]
    apply pm_beq
    rw [decide_eq_true_eq, decide_eq_true_eq, pm_mn_iff (fun i hi _ => hz i hi) hw hC, pm_mn_iff (fun i hi _ => hy i hi) hw hC]
    exact ⟨fun h i hi h2 => (hDE w i hw hi).mp (h i hi h2), fun h i hi h2 => (hDE w i hw hi).mpr (h i hi h2)⟩
