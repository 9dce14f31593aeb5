/-! ints that are worlds, variables, sets of variables; booleans -/
def bi_I (b : Bool) : Int32 := cond b 1 0
theorem bi_t : bi_I true = 1 := rfl
theorem bi_f : bi_I false = 0 := rfl
theorem bi_0 (b : Bool) : bi_I b = 0 ↔ b = false := by cases b <;> decide
theorem bi_1 (b : Bool) : bi_I b = 1 ↔ b = true := by cases b <;> decide
theorem bi_eq (a b : Bool) : bi_I a = bi_I b ↔ a = b := by cases a <;> cases b <;> decide
theorem bi_n (b : Bool) : narrow .boolean (.int (bi_I b)) = .int (bi_I b) := by cases b <;> rfl
theorem bi_v (b : Bool) : vp_nar .boolean (bi_I b) = bi_I b := by cases b <;> rfl
theorem bi_fit (b : Bool) : fits .boolean (.int (bi_I b)) = true := by cases b <;> rfl
theorem bi_valY : ∀ w, w < 64 → ∀ v, v < 6 → ((nI w >>> (nI v &&& 31)) &&& 1) = bi_I (Nat.testBit w v) := by decide +kernel
theorem bi_valX : ∀ w, w < 64 → ∀ v, v < 6 → (((nI w).toUInt32 >>> ((nI v).toUInt32 &&& Int32.toUInt32 31)).toInt32 &&& 1) = bi_I (Nat.testBit w v) := by decide +kernel
theorem bi_part : ∀ a, a < 64 → ∀ c, c < 64 → decide (nI a &&& (nI c ^^^ (-1)) = 0) = decide (a &&& c = a) := by decide +kernel
theorem bi_fv : ∀ f, f < 64 → ∀ v, v < 6 → nI f &&& (((1 : Int32) <<< (nI v &&& 31)) ^^^ (-1)) = nI (pq_fv f v) ∧ pq_fv f v < 64 := by decide +kernel
theorem bi_xor (w : Nat) {v : Nat} (hv : v < 7) : nI w ^^^ ((1 : Int32) <<< (nI v &&& 31)) = nI (w ^^^ 2 ^ v) := by rw [bb_step v hv, nx_xor]
theorem bi_64 (b w : Nat) : (64 : Int32) * nI b + nI w = nI (64 * b + w) := by
  rw [← nI_add, ← pk_mul]; rfl
theorem bi_top : ∀ h, h < 8 → ((nI (h + 1) - 1) &&& 7) = nI h ∧ (nI h &&& 7) = nI h := by decide +kernel
theorem bi_und : ∀ h, h < 7 → ((nI (h + 2) - 2) &&& 7) = nI h := by decide +kernel
theorem bi_2 {b : Int32} (h : nI 3 ≤ b) : ¬ b ≤ 2 := by
  intro z
  rw [Int32.le_iff_toInt_le] at h z
  have e1 : (nI 3).toInt = 3 := by decide
  have e2 : (2 : Int32).toInt = 2 := by decide
  omega
theorem bi_j2 {j : Nat} (h : j < 3) : nI j ≤ 2 := nI_le (b := 2) (by omega) (by decide)
/-! update -/
def pu_nr (F : Nat → Bool) (W u w : Nat) : Bool := pm_ex (fun x => F x && (decide (x ^^^ w ≠ u ^^^ w) && decide ((x ^^^ w) &&& (u ^^^ w) = x ^^^ w))) W
theorem pu_up (F B : Nat → Bool) (W u : Nat) : pm_ex (fun w => B w && (F u && !pu_nr F W u w)) W = (F u && pm_ex (fun w => B w && !pu_nr F W u w) W) := by
  cases F u
  · rw [Bool.false_and]
    exact (pm_ex_f _ _).mpr (fun i _ => by rw [Bool.false_and, Bool.and_false])
  · rw [Bool.true_and]
    exact pm_ex_c (fun i _ => by rw [Bool.true_and])
/-! defined -/
theorem pu_agree (x w s : Nat) : (x ^^^ w) &&& s = 0 ↔ x &&& s = w &&& s := by
  rw [Nat.and_xor_distrib_right, pm_x0]
theorem pu_def (B V : Nat → Bool) (W s : Nat) : pm_ex (fun w => (B w && V w) && pm_ex (fun x => (B x && !V x) && decide (x &&& s = w &&& s)) W) W = pm_ex (fun u => pm_ex (fun w => ((B u && B w) && decide (u &&& s = w &&& s)) && (V u != V w)) W) W := by
  apply pm_beq
  rw [pm_ex_t, pm_ex_t]
  constructor
  · rintro ⟨w, hw, h⟩
    rw [Bool.and_eq_true, Bool.and_eq_true, pm_ex_t] at h
    obtain ⟨⟨h1, h2⟩, x, hx, h3⟩ := h
    rw [Bool.and_eq_true, Bool.and_eq_true, decide_eq_true_eq] at h3
    obtain ⟨⟨h4, h5⟩, h6⟩ := h3
    refine ⟨w, hw, (pm_ex_t _ _).mpr ⟨x, hx, ?_⟩⟩
    rw [Bool.not_eq_true'] at h5
    rw [h1, h4, h2, h5, decide_eq_true h6.symm]; rfl
  · rintro ⟨u, hu, h⟩
    rw [pm_ex_t] at h
    obtain ⟨w, hw, h⟩ := h
    rw [Bool.and_eq_true, Bool.and_eq_true, Bool.and_eq_true, decide_eq_true_eq] at h
    obtain ⟨⟨⟨h1, h2⟩, h3⟩, h4⟩ := h
    cases h5 : V u
    · have h6 : V w = true := by
        rw [h5] at h4
        cases h7 : V w
        · rw [h7] at h4; exact absurd h4 (by decide)
        · rfl
      refine ⟨w, hw, ?_⟩
      rw [Bool.and_eq_true, pm_ex_t]
      refine ⟨by rw [h2, h6]; rfl, u, hu, ?_⟩
      rw [h1, h5, decide_eq_true h3]; rfl
    · have h6 : V w = false := by
        rw [h5] at h4
        cases h7 : V w
        · rfl
        · rw [h7] at h4; exact absurd h4 (by decide)
      refine ⟨u, hu, ?_⟩
      rw [Bool.and_eq_true, pm_ex_t]
      refine ⟨by rw [h1, h5]; rfl, w, hw, ?_⟩
      rw [h2, h6, decide_eq_true h3.symm]; rfl
/-! distance between two beliefs -/
theorem pu_dist {n : Nat} {A B : Nat → Bool} (hA : ¬ ∀ w, w < 2 ^ n → A w = false) (hB : ¬ ∀ w, w < 2 ^ n → B w = false) : pm_mn B (pm_ds n A) n (2 ^ n) = pm_mn B (pm_ds n A) (n + 1) (2 ^ n) := by
  have hex : ∀ S : Nat → Bool, (¬ ∀ w, w < 2 ^ n → S w = false) → ∃ w, w < 2 ^ n ∧ S w = true := by
    intro S h
    cases e : pm_ex S (2 ^ n)
    · exact absurd ((pm_ex_f S (2 ^ n)).mp e) h
    · exact (pm_ex_t S (2 ^ n)).mp e
  obtain ⟨a, ha, hA2⟩ := hex A hA
  obtain ⟨b, hb, hB2⟩ := hex B hB
  have hd : ∀ w, pm_ds n A w ≤ n := fun w => pm_ds_n ha hA2
  have h1 := pm_mn_le B (pm_ds n A) (n + 1) (2 ^ n) b hb hB2
  have h2 := hd b
  apply Nat.le_antisymm
  · rcases pm_mn_at B (pm_ds n A) (n + 1) (2 ^ n) with e | ⟨i, hi, h3, h4⟩
    · omega
    · rw [h4]; exact pm_mn_le _ _ _ _ i hi h3
  · exact pm_mn_ge _ _ (by omega) (fun i hi h3 => pm_mn_le _ _ _ _ i hi h3)
theorem bi_part' {a c : Nat} (ha : a < 64) (hc : c < 64) : nI a &&& (nI c ^^^ (-1)) = 0 ↔ a &&& c = a := decide_eq_decide.mp (bi_part a ha c hc)
/-! loops: the state at i is a function of i -/
theorem xl_up (W : Nat → Nat → Prop) (e : Nat) (hx : ∀ m, W (m + 1) e) (hs : ∀ m i, i < e → W m (i + 1) → W (m + 1) i) : ∃ m, W m 0 := by
  have key : ∀ d i, i + d = e → W (d + 1) i := by
    intro d
    induction d with
    | zero =>
      intro i hi
      have e2 : i = e := by omega
      rw [e2]; exact hx 0
    | succ d ih => intro i hi; exact hs (d + 1) i (by omega) (ih (i + 1) (by omega))
  exact ⟨e + 1, key e 0 (by omega)⟩
theorem xl_find (P : Nat → Bool) (W : Nat → Nat → Prop) (e : Nat) (hx : pm_ex P e = false → ∀ m, W (m + 1) e) (hs : ∀ m i, i < e → (P i = false → W m (i + 1)) → (P i = true → pm_ex P e = true) → W (m + 1) i) : ∃ m, W m 0 := by
  have key : ∀ d i, i + d = e → pm_ex P i = false → W (d + 1) i := by
    intro d
    induction d with
    | zero =>
      intro i hi h
      have e2 : i = e := by omega
      rw [e2] at h ⊢; exact hx h 0
    | succ d ih =>
      intro i hi h
      exact hs (d + 1) i (by omega) (fun hp => ih (i + 1) (by omega) (by show (pm_ex P i || P i) = false; rw [h, hp]; rfl)) (fun hp => (pm_ex_t P e).mpr ⟨i, by omega, hp⟩)
  exact ⟨e + 1, key e 0 (by omega) rfl⟩
/-! sets built world by world -/
def bs_S (P : Nat → Bool) (i : Nat) : Nat → Bool := fun u => decide (u < i) && P u
theorem bs_0 (P : Nat → Bool) (m : Nat) : bb_L (bs_S P 0) m = 0 := (bb_Lc (T := fun _ => false) (fun i _ => by unfold bs_S; simp)).trans (bb_L0 m)
theorem bs_e (P : Nat → Bool) (m : Nat) : bb_L (bs_S P m) m = bb_L P m := bb_Lc (fun i hi => by unfold bs_S; rw [decide_eq_true hi, Bool.true_and])
theorem bs_f {P : Nat → Bool} {i : Nat} (h : P i = false) (m : Nat) : bb_L (bs_S P (i + 1)) m = bb_L (bs_S P i) m := bb_Lc (fun j _ => by
  unfold bs_S
  rw [bb_lts]
  by_cases e : i = j
  · subst e; rw [h, Bool.and_false, Bool.and_false]
  · rw [decide_eq_false e, Bool.or_false])
theorem bs_t {P : Nat → Bool} {i m : Nat} (h : P i = true) (hm : m ≤ 64) (hi : i < m) : bb_L (bs_S P i) m ||| ((1 : Int64) <<< ((nI i).toInt64 &&& 63)) = bb_L (bs_S P (i + 1)) m := (bb_Lset hm hi).trans (bb_Lc (fun j _ => by
  show (bs_S P i j || decide (i = j)) = bs_S P (i + 1) j
  unfold bs_S
  rw [bb_lts]
  by_cases e : i = j
  · subst e; rw [h, decide_eq_true (rfl : i = i), Bool.or_true, Bool.or_true]; rfl
  · rw [decide_eq_false e, Bool.or_false, Bool.or_false]))
/-! an array filled cell by cell from o on -/
def fa_F (a : Nat → Int32) (o : Nat) (f : Nat → Int32) (i : Nat) : Nat → Int32 := fun j => if o ≤ j ∧ j < o + i then f (j - o) else a j
theorem fa_0 (a : Nat → Int32) (o : Nat) (f : Nat → Int32) : fa_F a o f 0 = a := funext (fun j => if_neg (by omega))
theorem fa_s (a : Nat → Int32) (o : Nat) (f : Nat → Int32) (i : Nat) : upd (fa_F a o f i) (o + i) (f i) = fa_F a o f (i + 1) := funext (fun j => by
  unfold upd fa_F
  by_cases e : j = o + i
  · subst e
    rw [if_pos rfl, if_pos (by omega)]
    exact congrArg f (by omega)
  · rw [if_neg e]
    by_cases h : o ≤ j ∧ j < o + i
    · rw [if_pos h, if_pos (by omega)]
    · rw [if_neg h, if_neg (by omega)])
theorem fa_in {a : Nat → Int32} {o : Nat} {f : Nat → Int32} {i w : Nat} (h : w < i) : fa_F a o f i (o + w) = f w := by
  unfold fa_F
  rw [if_pos (by omega)]
  exact congrArg f (by omega)
theorem fa_out {a : Nat → Int32} {o : Nat} {f : Nat → Int32} {i j : Nat} (h : j < o ∨ o + i ≤ j) : fa_F a o f i j = a j := if_neg (by omega)
