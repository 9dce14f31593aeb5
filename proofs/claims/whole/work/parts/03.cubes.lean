/-! cubes: X by the open variables o, Y by the fixed ones f = 2^n - (o + 1) -/
def pq_in (o : Nat) (B : Nat → Bool) : Nat → Nat → Bool
  | 0 => B
  | v + 1 => fun w => if Nat.testBit o v = true then (pq_in o B v w && pq_in o B v (w ^^^ 2 ^ v)) else pq_in o B v w
theorem pq_tx_self (w v : Nat) : Nat.testBit (w ^^^ 2 ^ v) v = !Nat.testBit w v := by
  rw [Nat.testBit_xor, Nat.testBit_two_pow_self, Bool.xor_true]
theorem pq_tx_ne {w v i : Nat} (h : i ≠ v) : Nat.testBit (w ^^^ 2 ^ v) i = Nat.testBit w i := by
  rw [Nat.testBit_xor, Nat.testBit_two_pow_of_ne (Ne.symm h), Bool.xor_false]
theorem pq_hi {n w i : Nat} (hw : w < 2 ^ n) (h : n ≤ i) : Nat.testBit w i = false :=
  Nat.testBit_lt_two_pow (Nat.lt_of_lt_of_le hw (Nat.pow_le_pow_right (by decide) h))
theorem pq_eq {n x w : Nat} (hx : x < 2 ^ n) (hw : w < 2 ^ n) (h : ∀ i, i < n → Nat.testBit x i = Nat.testBit w i) : x = w := by
  apply Nat.eq_of_testBit_eq
  intro i
  by_cases hi : i < n
  · exact h i hi
  · rw [pq_hi hx (by omega), pq_hi hw (by omega)]
theorem pq_in_iff {n o : Nat} {B : Nat → Bool} : ∀ v, v ≤ n → ∀ w, w < 2 ^ n → (pq_in o B v w = true ↔ ∀ x, x < 2 ^ n → (∀ i, i < n → (v ≤ i ∨ Nat.testBit o i = false) → Nat.testBit x i = Nat.testBit w i) → B x = true) := by
  intro v
  induction v with
  | zero =>
    intro _ w hw
    constructor
    · intro h x hx hxw
      have e : x = w := pq_eq hx hw (fun i hi => hxw i hi (Or.inl (Nat.zero_le i)))
      rw [e]; exact h
    · intro h
      exact h w hw (fun _ _ _ => rfl)
  | succ v ih =>
    intro hv w hw
    have hw2 : w ^^^ 2 ^ v < 2 ^ n := pm_xlt hw (pm_plt (by omega))
    have ih1 := ih (by omega) w hw
    have ih2 := ih (by omega) (w ^^^ 2 ^ v) hw2
    show (if Nat.testBit o v = true then (pq_in o B v w && pq_in o B v (w ^^^ 2 ^ v)) else pq_in o B v w) = true ↔ _
    by_cases ho : Nat.testBit o v = true
    · rw [if_pos ho, Bool.and_eq_true, ih1, ih2]
      constructor
      · rintro ⟨h1, h2⟩ x hx hxw
        by_cases hb : Nat.testBit x v = Nat.testBit w v
        · refine h1 x hx (fun i hi hc => ?_)
          by_cases hiv : i = v
          · rw [hiv]; exact hb
          · exact hxw i hi (by rcases hc with c | c
                               · exact Or.inl (by omega)
                               · exact Or.inr c)
        · refine h2 x hx (fun i hi hc => ?_)
          by_cases hiv : i = v
          · rw [hiv, pq_tx_self]
            revert hb
            cases Nat.testBit x v <;> cases Nat.testBit w v <;> simp
          · rw [pq_tx_ne hiv]
            exact hxw i hi (by rcases hc with c | c
                               · exact Or.inl (by omega)
                               · exact Or.inr c)
      · intro h
        constructor
        · intro x hx hxw
          exact h x hx (fun i hi hc => hxw i hi (by rcases hc with c | c
                                                    · exact Or.inl (by omega)
                                                    · exact Or.inr c))
        · intro x hx hxw
          refine h x hx (fun i hi hc => ?_)
          have hiv : i ≠ v := by
            intro e
            rcases hc with c | c
            · omega
            · rw [e, ho] at c; exact absurd c (by decide)
          rw [← pq_tx_ne (w := w) hiv]
          exact hxw i hi (by rcases hc with c | c
                             · exact Or.inl (by omega)
                             · exact Or.inr c)
    · rw [if_neg ho, ih1]
      have hof := ts_nt ho
      constructor
      · intro h x hx hxw
        refine h x hx (fun i hi hc => hxw i hi ?_)
        by_cases hiv : i = v
        · rw [hiv]; exact Or.inr hof
        · rcases hc with c | c
          · exact Or.inl (by omega)
          · exact Or.inr c
      · intro h x hx hxw
        refine h x hx (fun i hi hc => hxw i hi ?_)
        rcases hc with c | c
        · exact Or.inl (by omega)
        · exact Or.inr c
theorem pq_in_n {n o w : Nat} {B : Nat → Bool} (hw : w < 2 ^ n) : pq_in o B n w = true ↔ ∀ x, x < 2 ^ n → (∀ i, i < n → Nat.testBit o i = false → Nat.testBit x i = Nat.testBit w i) → B x = true := by
  rw [pq_in_iff n (Nat.le_refl n) w hw]
  constructor
  · intro h x hx hxw
    exact h x hx (fun i hi hc => hxw i hi (by rcases hc with c | c
                                              · omega
                                              · exact c))
  · intro h x hx hxw
    exact h x hx (fun i hi hc => hxw i hi (Or.inr hc))
/-- X: the prime cubes that leave just o open, each by its least world -/
def pq_px (n o : Nat) (B : Nat → Bool) : Nat → Nat → Bool
  | 0 => pq_in o B n
  | v + 1 => fun w => if Nat.testBit o v = true then (pq_px n o B v w && !Nat.testBit w v) else (pq_px n o B v w && !pq_in o B n (w ^^^ 2 ^ v))
theorem pq_px_iff {n o w : Nat} {B : Nat → Bool} : ∀ m, pq_px n o B m w = true ↔ pq_in o B n w = true ∧ ∀ v, v < m → (Nat.testBit o v = true → Nat.testBit w v = false) ∧ (Nat.testBit o v = false → pq_in o B n (w ^^^ 2 ^ v) = false) := by
  intro m
  induction m with
  | zero => exact ⟨fun h => ⟨h, fun v hv => absurd hv (by omega)⟩, fun h => h.1⟩
  | succ m ih =>
    show (if Nat.testBit o m = true then (pq_px n o B m w && !Nat.testBit w m) else (pq_px n o B m w && !pq_in o B n (w ^^^ 2 ^ m))) = true ↔ _
    by_cases ho : Nat.testBit o m = true
    · rw [if_pos ho, Bool.and_eq_true, ih, Bool.not_eq_true']
      constructor
      · rintro ⟨⟨h1, h2⟩, h3⟩
        refine ⟨h1, fun v hv => ?_⟩
        by_cases e : v = m
        · subst e; exact ⟨fun _ => h3, fun z => absurd (ho.symm.trans z) (by decide)⟩
        · exact h2 v (by omega)
      · rintro ⟨h1, h2⟩
        exact ⟨⟨h1, fun v hv => h2 v (by omega)⟩, (h2 m (by omega)).1 ho⟩
    · have hof := ts_nt ho
      rw [if_neg ho, Bool.and_eq_true, ih, Bool.not_eq_true']
      constructor
      · rintro ⟨⟨h1, h2⟩, h3⟩
        refine ⟨h1, fun v hv => ?_⟩
        by_cases e : v = m
        · subst e; exact ⟨fun z => absurd z ho, fun _ => h3⟩
        · exact h2 v (by omega)
      · rintro ⟨h1, h2⟩
        exact ⟨⟨h1, fun v hv => h2 v (by omega)⟩, (h2 m (by omega)).2 hof⟩
/-- Y: the cube that fixes f to c lies inside B -/
def pq_iy (n f c : Nat) (B : Nat → Bool) : Bool := !pm_ex (fun x => decide (x &&& f = c) && !B x) (2 ^ n)
theorem pq_iy_t {n f c : Nat} {B : Nat → Bool} : pq_iy n f c B = true ↔ ∀ x, x < 2 ^ n → x &&& f = c → B x = true := by
  unfold pq_iy
  rw [Bool.not_eq_true', pm_ex_f]
  constructor
  · intro h x hx e
    have h2 := h x hx
    rw [decide_eq_true e, Bool.true_and, Bool.not_eq_false'] at h2
    exact h2
  · intro h x hx
    by_cases e : x &&& f = c
    · rw [h x hx e, Bool.not_true, Bool.and_false]
    · rw [decide_eq_false e, Bool.false_and]
theorem pq_iy_w {n f w : Nat} {B : Nat → Bool} (hw : w < 2 ^ n) : pq_iy n f (w &&& f) B = true ↔ ∀ x, x < 2 ^ n → (∀ i, i < n → Nat.testBit f i = true → Nat.testBit x i = Nat.testBit w i) → B x = true := by
  rw [pq_iy_t]
  constructor
  · intro h x hx hxw
    refine h x hx (pq_eq (n := n) (Nat.lt_of_le_of_lt Nat.and_le_left hx) (Nat.lt_of_le_of_lt Nat.and_le_left hw) (fun i hi => ?_))
    rw [Nat.testBit_and, Nat.testBit_and]
    cases hf : Nat.testBit f i
    · rw [Bool.and_false, Bool.and_false]
    · rw [hxw i hi hf]
  · intro h x hx e
    refine h x hx (fun i hi hf => ?_)
    have e2 := congrArg (fun z => Nat.testBit z i) e
    simp only [Nat.testBit_and, hf, Bool.and_true] at e2
    exact e2
/-- the fixed variables without v -/
def pq_fv (f v : Nat) : Nat := if Nat.testBit f v = true then f ^^^ 2 ^ v else f
def pq_py (n f w : Nat) (B : Nat → Bool) : Bool := pq_iy n f w B && !pm_ex (fun v => decide (pq_fv f v ≠ f) && pq_iy n (pq_fv f v) (w &&& pq_fv f v) B) n
theorem pq_fv_ne (f v : Nat) : pq_fv f v ≠ f ↔ Nat.testBit f v = true := by
  unfold pq_fv
  by_cases h : Nat.testBit f v = true
  · rw [if_pos h]
    refine ⟨fun _ => h, fun _ e => ?_⟩
    have e2 := congrArg (fun z => Nat.testBit z v) e
    simp only [pq_tx_self, h] at e2
    exact absurd e2 (by decide)
  · rw [if_neg h]
    exact ⟨fun z => absurd rfl z, fun z => absurd z h⟩
theorem pq_prime {n o w : Nat} {B : Nat → Bool} (ho : o < 2 ^ n) (hw : w < 2 ^ n) : pq_px n o B n w = (decide (w &&& (2 ^ n - (o + 1)) = w) && pq_py n (2 ^ n - (o + 1)) w B) := by
  have hf : ∀ i, i < n → Nat.testBit (2 ^ n - (o + 1)) i = !Nat.testBit o i := by
    intro i hi
    rw [Nat.testBit_two_pow_sub_succ ho, decide_eq_true hi, Bool.true_and]
  generalize 2 ^ n - (o + 1) = f at hf
  apply pm_beq
  rw [pq_px_iff, Bool.and_eq_true, decide_eq_true_eq]
  have hwf : w &&& f = w ↔ ∀ v, v < n → Nat.testBit o v = true → Nat.testBit w v = false := by
    constructor
    · intro e v hv hov
      have e2 := congrArg (fun z => Nat.testBit z v) e
      simp only [Nat.testBit_and, hf v hv, hov, Bool.not_true, Bool.and_false] at e2
      exact e2.symm
    · intro h
      refine pq_eq (n := n) (Nat.lt_of_le_of_lt Nat.and_le_left hw) hw (fun i hi => ?_)
      rw [Nat.testBit_and, hf i hi]
      cases hoi : Nat.testBit o i
      · simp
      · rw [h i hi hoi]; rfl
  have hin : ∀ x, x < 2 ^ n → (pq_iy n f (x &&& f) B = true ↔ pq_in o B n x = true) := by
    intro x hx
    rw [pq_iy_w hx, pq_in_n hx]
    constructor
    · intro h y hy hyx
      refine h y hy (fun i hi hfi => hyx i hi ?_)
      rw [hf i hi, Bool.not_eq_true'] at hfi
      exact hfi
    · intro h y hy hyx
      refine h y hy (fun i hi hoi => hyx i hi ?_)
      rw [hf i hi, hoi]; rfl
  have hnext : ∀ v, v < n → Nat.testBit o v = false → (pq_iy n (pq_fv f v) (w &&& pq_fv f v) B = true ↔ pq_in o B n w = true ∧ pq_in o B n (w ^^^ 2 ^ v) = true) := by
    intro v hv hov
    have hw2 : w ^^^ 2 ^ v < 2 ^ n := pm_xlt hw (pm_plt hv)
    have hfv : Nat.testBit f v = true := by rw [hf v hv, hov]; rfl
    have e : pq_fv f v = f ^^^ 2 ^ v := if_pos hfv
    rw [e, pq_iy_w hw, pq_in_n hw, pq_in_n hw2]
    constructor
    · intro h
      constructor
      · intro x hx hxw
        refine h x hx (fun i hi hfi => ?_)
        by_cases hiv : i = v
        · rw [hiv, pq_tx_self, hfv] at hfi; exact absurd hfi (by decide)
        · rw [pq_tx_ne hiv, hf i hi, Bool.not_eq_true'] at hfi
          exact hxw i hi hfi
      · intro x hx hxw
        refine h x hx (fun i hi hfi => ?_)
        by_cases hiv : i = v
        · rw [hiv, pq_tx_self, hfv] at hfi; exact absurd hfi (by decide)
        · rw [pq_tx_ne hiv, hf i hi, Bool.not_eq_true'] at hfi
          rw [hxw i hi hfi, pq_tx_ne hiv]
    · rintro ⟨h1, h2⟩ x hx hxw
      by_cases hb : Nat.testBit x v = Nat.testBit w v
      · refine h1 x hx (fun i hi hoi => ?_)
        by_cases hiv : i = v
        · rw [hiv]; exact hb
        · refine hxw i hi ?_
          rw [pq_tx_ne hiv, hf i hi, hoi]; rfl
      · refine h2 x hx (fun i hi hoi => ?_)
        by_cases hiv : i = v
        · rw [hiv, pq_tx_self]
          revert hb
          cases Nat.testBit x v <;> cases Nat.testBit w v <;> simp
        · rw [pq_tx_ne hiv]
          refine hxw i hi ?_
          rw [pq_tx_ne hiv, hf i hi, hoi]; rfl
  unfold pq_py
  rw [Bool.and_eq_true, Bool.not_eq_true', pm_ex_f]
  constructor
  · rintro ⟨h1, h2⟩
    have hwe : w &&& f = w := hwf.mpr (fun v hv hov => (h2 v hv).1 hov)
    have hi0 := (hin w hw).mpr h1
    rw [hwe] at hi0
    refine ⟨hwe, hi0, fun v hv => ?_⟩
    by_cases hov : Nat.testBit o v = true
    · have : ¬ pq_fv f v ≠ f := by
        rw [pq_fv_ne, hf v hv, hov]; decide
      rw [decide_eq_false this, Bool.false_and]
    · have hov := ts_nt hov
      have h3 := (h2 v hv).2 hov
      cases h4 : pq_iy n (pq_fv f v) (w &&& pq_fv f v) B
      · rw [Bool.and_false]
      · have h5 := ((hnext v hv hov).mp h4).2
        rw [h3] at h5; exact absurd h5 (by decide)
  · rintro ⟨hwe, h1, h2⟩
    rw [← hwe] at h1
    have h1' := (hin w hw).mp h1
    refine ⟨h1', fun v hv => ⟨fun hov => hwf.mp hwe v hv hov, fun hov => ?_⟩⟩
    have hfv : Nat.testBit f v = true := by rw [hf v hv, hov]; rfl
    have h3 := h2 v hv
    rw [decide_eq_true ((pq_fv_ne f v).mpr hfv), Bool.true_and] at h3
    cases h4 : pq_in o B n (w ^^^ 2 ^ v)
    · rfl
    · have h5 := (hnext v hv hov).mpr ⟨h1', h4⟩
      rw [h3] at h5; exact absurd h5 (by decide)
theorem pq_primes (n : Nat) (B : Nat → Bool) : pm_sm (fun o => pm_cn (pq_px n o B n) (2 ^ n)) (2 ^ n) = pm_sm (fun f => pm_cn (fun w => decide (w &&& f = w) && pq_py n f w B) (2 ^ n)) (2 ^ n) := by
  rw [pm_sm_rev (fun f => pm_cn (fun w => decide (w &&& f = w) && pq_py n f w B) (2 ^ n)) (2 ^ n)]
  apply pm_sm_c
  intro o ho
  exact pm_cn_c (fun w hw => pq_prime ho hw)
