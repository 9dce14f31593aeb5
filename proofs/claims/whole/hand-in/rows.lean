section
theorem pk_us {f : Nat → Int32} {k : Nat} {x : Int32} : upd f k x k = x := if_pos rfl
theorem pk_un {f : Nat → Int32} {k j : Nat} {x : Int32} (h : j ≠ k) : upd f k x j = f j := if_neg h
theorem pk_uLs {f : Nat → Int64} {k : Nat} {x : Int64} : vp_updL f k x k = x := if_pos rfl
theorem pk_uLn {f : Nat → Int64} {k j : Nat} {x : Int64} (h : j ≠ k) : vp_updL f k x j = f j := if_neg h
theorem pk_sub {a b : Nat} (h : b ≤ a) : nI a - nI b = nI (a - b) := by
  obtain ⟨c, rfl⟩ : ∃ c, a = c + b := ⟨a - b, by omega⟩
  rw [← nI_add, Int32.add_sub_cancel, Nat.add_sub_cancel]
theorem pk_m1 (n : Nat) : nI (n + 1) + (-1) = nI n := by
  rw [← nI_1, Int32.add_assoc, show (1 : Int32) + (-1) = 0 from rfl, Int32.add_zero]
theorem pk_mul (a b : Nat) : nI a * nI b = nI (a * b) := (Int32.ofNat_mul a b).symm
theorem pk_ix (x : Int32) {n : Nat} (hn : n < 2 ^ 31) : x < 0 ∨ nI n ≤ x ∨ ∃ j : Nat, j < n ∧ x = nI j := by
  by_cases h : x < 0
  · exact Or.inl h
  · obtain ⟨j, hj, rfl⟩ := nI_of h
    by_cases h2 : j < n
    · exact Or.inr (Or.inr ⟨j, h2, rfl⟩)
    · exact Or.inr (Or.inl (nI_le (by omega) hj))
theorem pk_le {x y : Int32} {A B : Prop} (a b : Nat) (f : a ≤ b → A) (g : b < a → B) (hx : x = nI a := by rfl) (hy : y = nI b := by rfl) (ha : a < 2 ^ 31 := by omega) (hb : b < 2 ^ 31 := by omega) : (x ≤ y → A) ∧ (¬ x ≤ y → B) := by
  subst hx hy
  rw [nI_leI ha hb]
  exact ⟨f, fun z => g (by omega)⟩
theorem pk_lt {x y : Int32} {A B : Prop} (a b : Nat) (f : a < b → A) (g : b ≤ a → B) (hx : x = nI a := by rfl) (hy : y = nI b := by rfl) (ha : a < 2 ^ 31 := by omega) (hb : b < 2 ^ 31 := by omega) : (x < y → A) ∧ (¬ x < y → B) := by
  subst hx hy
  rw [nI_ltI ha hb]
  exact ⟨f, fun z => g (by omega)⟩
theorem pk_eq {x y : Int32} {A B : Prop} (a b : Nat) (f : a = b → A) (g : a ≠ b → B) (hx : x = nI a := by rfl) (hy : y = nI b := by rfl) (ha : a < 2 ^ 31 := by omega) (hb : b < 2 ^ 31 := by omega) : (x = y → A) ∧ (¬ x = y → B) := by
  subst hx hy
  rw [nI_eq ha hb]
  exact ⟨f, g⟩
theorem pk_in {x : Int32} (n N : Nat) (h : n < N) (hx : x = nI n := by rfl) (hN : N < 2 ^ 31 := by omega) : vp_in x N := by
  subst hx
  exact vp_in_nI h hN
theorem pk_cl {x : Int32} (n : Nat) (hx : x = nI n := by rfl) (h : n < 2 ^ 31 := by omega) : x.toNatClampNeg = n := by
  subst hx
  exact nI_clamp h
theorem pk_tn {n : Nat} (h : n < 2 ^ 32) : (nI n).toBitVec.toNat = n := Nat.mod_eq_of_lt h
theorem pk_shl (a s : Int32) (k : Nat) (hs : (s.toBitVec.smod 32).toNat = k) : (a <<< s).toBitVec.toNat = a.toBitVec.toNat * 2 ^ k % 2 ^ 32 := by
  show (a.toBitVec <<< (s.toBitVec.smod 32).toNat).toNat = _
  rw [hs, BitVec.toNat_shiftLeft, Nat.shiftLeft_eq]
theorem pk_shlN {n : Nat} (s : Int32) (k : Nat) (hs : (s.toBitVec.smod 32).toNat = k) (h : n * 2 ^ k < 2 ^ 32) : nI n <<< s = nI (n * 2 ^ k) := by
  apply Int32.toBitVec_inj.mp
  apply BitVec.eq_of_toNat_eq
  have hn : n < 2 ^ 32 := Nat.lt_of_le_of_lt (Nat.le_mul_of_pos_right n (Nat.two_pow_pos k)) h
  rw [pk_shl _ _ k hs, pk_tn hn, pk_tn h, Nat.mod_eq_of_lt h]
theorem pk_loop {σ : Type} (W : Nat → Nat → σ → Prop) (I : Nat → σ → Prop) (e i0 : Nat) (s : σ) (hi : i0 ≤ e) (h0 : I i0 s) (hx : ∀ n s, I e s → W (n + 1) e s)
    (hs : ∀ n i s, i < e → I i s → (∀ s', I (i + 1) s' → W n (i + 1) s') → W (n + 1) i s) : ∃ n, W n i0 s :=
  ⟨e + 1, loop_i W I e hx hs (e + 1) i0 s hi (by omega) h0⟩
theorem nx_and (a b : Nat) : nI a &&& nI b = nI (a &&& b) := by
  apply Int32.toBitVec_inj.1
  show BitVec.ofNat 32 a &&& BitVec.ofNat 32 b = BitVec.ofNat 32 (a &&& b)
  apply BitVec.eq_of_getLsbD_eq
  intro i hi
  simp [hi]
theorem nx_xor (a b : Nat) : nI a ^^^ nI b = nI (a ^^^ b) := by
  apply Int32.toBitVec_inj.1
  show BitVec.ofNat 32 a ^^^ BitVec.ofNat 32 b = BitVec.ofNat 32 (a ^^^ b)
  apply BitVec.eq_of_getLsbD_eq
  intro i hi
  simp [hi]
theorem ts_nf {x : Bool} (h : ¬ x = false) : x = true := by cases x <;> first | rfl | exact absurd rfl h
theorem ts_nt {x : Bool} (h : ¬ x = true) : x = false := by cases x <;> first | rfl | exact absurd rfl h
theorem ts_bit {w : Int64} {s : UInt64} {j : Nat} (hj : j < 64) (hs : s.toNat = j) : ((w.toUInt64 >>> s).toInt64 &&& 1) = 0 ↔ w.toBitVec.getLsbD j = false := by
  have e : (w.toUInt64 >>> s).toInt64.toBitVec = w.toBitVec >>> j := by
    apply BitVec.eq_of_toNat_eq
    show (w.toUInt64 >>> s).toNat = _
    rw [UInt64.toNat_shiftRight, hs, Nat.mod_eq_of_lt hj, BitVec.toNat_ushiftRight]
    rfl
  rw [← Int64.toBitVec_inj, Int64.toBitVec_and, e]
  show w.toBitVec >>> j &&& 1#64 = 0#64 ↔ _
  constructor
  · intro h
    have t := congrArg (fun x => x.getLsbD 0) h
    simpa using t
  · intro h
    apply BitVec.eq_of_getLsbD_eq
    intro i hi
    cases i with
    | zero => simp [h]
    | succ i => simp
theorem wb_cu : ∀ k, k < 64 → ((nI k).toInt64.toUInt64 &&& Int64.toUInt64 63) = UInt64.ofNat k := by decide +kernel
theorem u_tn {n : Nat} (h : n < 2 ^ 64) : (UInt64.ofNat n).toNat = n := Nat.mod_eq_of_lt h
/-! a long as a set of worlds: its bits -/
def bb_g (x : Int64) (i : Nat) : Bool := x.toBitVec.getLsbD i
theorem bb_ext {x y : Int64} (h : ∀ i, i < 64 → bb_g x i = bb_g y i) : x = y := Int64.toBitVec_inj.mp (BitVec.eq_of_getLsbD_eq (fun i hi => h i hi))
theorem bb_or (x y : Int64) (i : Nat) : bb_g (x ||| y) i = (bb_g x i || bb_g y i) := by unfold bb_g; rw [Int64.toBitVec_or, BitVec.getLsbD_or]
theorem bb_and (x y : Int64) (i : Nat) : bb_g (x &&& y) i = (bb_g x i && bb_g y i) := by unfold bb_g; rw [Int64.toBitVec_and, BitVec.getLsbD_and]
theorem bb_xor (x y : Int64) (i : Nat) : bb_g (x ^^^ y) i = (bb_g x i ^^ bb_g y i) := by unfold bb_g; rw [Int64.toBitVec_xor, BitVec.getLsbD_xor]
theorem bb_0 (i : Nat) : bb_g 0 i = false := BitVec.getLsbD_zero
theorem bb_m1 : ∀ i, i < 64 → bb_g (-1) i = true := by decide +kernel
theorem bb_1 : ∀ i, i < 64 → bb_g 1 i = decide (i = 0) := by decide +kernel
theorem bb_not (x : Int64) {i : Nat} (hi : i < 64) : bb_g (x ^^^ (-1)) i = !bb_g x i := by rw [bb_xor, bb_m1 i hi, Bool.xor_true]
theorem bb_sl : ∀ n, n < 64 → (((nI n).toInt64 &&& 63).toBitVec.smod 64).toNat = n := by decide +kernel
theorem bb_su : ∀ n, n < 64 → (((nI n).toInt64.toUInt64 &&& Int64.toUInt64 63).toBitVec % 64).toNat = n := by decide +kernel
theorem bb_shl (n : Nat) (hn : n < 64) (x : Int64) {i : Nat} (hi : i < 64) : bb_g (x <<< ((nI n).toInt64 &&& 63)) i = (decide (n ≤ i) && bb_g x (i - n)) := by
  unfold bb_g
  rw [Int64.toBitVec_shiftLeft]
  show (x.toBitVec <<< (((nI n).toInt64 &&& 63).toBitVec.smod 64).toNat).getLsbD i = _
  rw [bb_sl n hn, BitVec.getLsbD_shiftLeft]
  rcases Nat.lt_or_ge i n with h | h
  · simp [h, Nat.not_le.mpr h]
  · simp [hi, h, Nat.not_lt.mpr h]
theorem bb_ushr (n : Nat) (hn : n < 64) (x : Int64) (i : Nat) : bb_g ((x.toUInt64 >>> ((nI n).toInt64.toUInt64 &&& Int64.toUInt64 63)).toInt64) i = bb_g x (n + i) := by
  show (x.toUInt64 >>> ((nI n).toInt64.toUInt64 &&& Int64.toUInt64 63)).toBitVec.getLsbD i = x.toUInt64.toBitVec.getLsbD (n + i)
  rw [UInt64.toBitVec_shiftRight]
  show (x.toUInt64.toBitVec >>> (((nI n).toInt64.toUInt64 &&& Int64.toUInt64 63).toBitVec % 64).toNat).getLsbD i = _
  rw [bb_su n hn, BitVec.getLsbD_ushiftRight]
theorem bb_bit {w i : Nat} (hw : w < 64) (hi : i < 64) : bb_g ((1 : Int64) <<< ((nI w).toInt64 &&& 63)) i = decide (w = i) := by
  rw [bb_shl w hw 1 hi, bb_1 (i - w) (by omega)]
  by_cases h : w = i
  · subst h; simp
  · rw [decide_eq_false h]
    by_cases h2 : w ≤ i
    · rw [decide_eq_false (show ¬ i - w = 0 by omega), Bool.and_false]
    · rw [decide_eq_false h2, Bool.false_and]
/-- the set S below m, as a long -/
def bb_L (S : Nat → Bool) : Nat → Int64
  | 0 => 0
  | m + 1 => if S m = true then bb_L S m ||| ((1 : Int64) <<< ((nI m).toInt64 &&& 63)) else bb_L S m
theorem bb_lts (i m : Nat) : decide (i < m + 1) = (decide (i < m) || decide (m = i)) := by
  by_cases h : i < m
  · rw [decide_eq_true h, decide_eq_true (show i < m + 1 by omega)]; rfl
  · by_cases h2 : m = i
    · rw [decide_eq_true h2, decide_eq_true (show i < m + 1 by omega), Bool.or_true]
    · rw [decide_eq_false h, decide_eq_false h2, decide_eq_false (show ¬ i < m + 1 by omega)]; rfl
theorem bb_gL (S : Nat → Bool) : ∀ m, m ≤ 64 → ∀ i, i < 64 → bb_g (bb_L S m) i = (decide (i < m) && S i) := by
  intro m
  induction m with
  | zero => intro _ i _; exact (bb_0 i).trans (by simp)
  | succ m ih =>
    intro hm i hi
    have e := ih (by omega) i hi
    rw [bb_lts]
    by_cases hs : S m = true
    · have e2 : bb_L S (m + 1) = bb_L S m ||| ((1 : Int64) <<< ((nI m).toInt64 &&& 63)) := if_pos hs
      rw [e2, bb_or, e, bb_bit (by omega) hi]
      by_cases h2 : m = i
      · subst h2; simp [hs]
      · rw [decide_eq_false h2, Bool.or_false, Bool.or_false]
    · have e2 : bb_L S (m + 1) = bb_L S m := if_neg hs
      rw [e2, e]
      by_cases h2 : m = i
      · subst h2; simp [ts_nt hs]
      · rw [decide_eq_false h2, Bool.or_false]
theorem bb_Lx {x : Int64} {S : Nat → Bool} {m : Nat} (hm : m ≤ 64) (h : ∀ i, i < 64 → bb_g x i = (decide (i < m) && S i)) : x = bb_L S m := bb_ext (fun i hi => by rw [h i hi, bb_gL S m hm i hi])
theorem bb_Lc {S T : Nat → Bool} : ∀ {m : Nat}, (∀ i, i < m → S i = T i) → bb_L S m = bb_L T m := by
  intro m
  induction m with
  | zero => intro _; rfl
  | succ m ih =>
    intro h
    show (if S m = true then bb_L S m ||| _ else bb_L S m) = (if T m = true then bb_L T m ||| _ else bb_L T m)
    rw [ih (fun i hi => h i (by omega)), h m (by omega)]
theorem bb_Land {S T : Nat → Bool} {m : Nat} (hm : m ≤ 64) : bb_L S m &&& bb_L T m = bb_L (fun w => S w && T w) m := bb_Lx hm (fun i hi => by
  rw [bb_and, bb_gL _ _ hm i hi, bb_gL _ _ hm i hi]
  show _ = (decide (i < m) && (S i && T i))
  cases decide (i < m) <;> cases S i <;> cases T i <;> rfl)
theorem bb_Lor {S T : Nat → Bool} {m : Nat} (hm : m ≤ 64) : bb_L S m ||| bb_L T m = bb_L (fun w => S w || T w) m := bb_Lx hm (fun i hi => by
  rw [bb_or, bb_gL _ _ hm i hi, bb_gL _ _ hm i hi]
  show _ = (decide (i < m) && (S i || T i))
  cases decide (i < m) <;> cases S i <;> cases T i <;> rfl)
theorem bb_Lxor {S T : Nat → Bool} {m : Nat} (hm : m ≤ 64) : bb_L S m ^^^ bb_L T m = bb_L (fun w => S w ^^ T w) m := bb_Lx hm (fun i hi => by
  rw [bb_xor, bb_gL _ _ hm i hi, bb_gL _ _ hm i hi]
  show _ = (decide (i < m) && (S i ^^ T i))
  cases decide (i < m) <;> cases S i <;> cases T i <;> rfl)
theorem bb_Ldiff {S T : Nat → Bool} {m : Nat} (hm : m ≤ 64) : bb_L S m &&& (bb_L T m ^^^ (-1)) = bb_L (fun w => S w && !T w) m := bb_Lx hm (fun i hi => by
  rw [bb_and, bb_not _ hi, bb_gL _ _ hm i hi, bb_gL _ _ hm i hi]
  show _ = (decide (i < m) && (S i && !T i))
  cases decide (i < m) <;> cases S i <;> cases T i <;> rfl)
theorem bb_Lset {S : Nat → Bool} {m w : Nat} (hm : m ≤ 64) (hw : w < m) : bb_L S m ||| ((1 : Int64) <<< ((nI w).toInt64 &&& 63)) = bb_L (fun i => S i || decide (w = i)) m := bb_Lx hm (fun i hi => by
  rw [bb_or, bb_gL _ _ hm i hi, bb_bit (by omega) hi]
  show _ = (decide (i < m) && (S i || decide (w = i)))
  by_cases h : w = i
  · subst h; rw [decide_eq_true hw]; cases S w <;> simp
  · rw [decide_eq_false h, Bool.or_false, Bool.or_false])
theorem bb_L1 {m w : Nat} (hm : m ≤ 64) (hw : w < m) : ((1 : Int64) <<< ((nI w).toInt64 &&& 63)) = bb_L (fun i => decide (w = i)) m := bb_Lx hm (fun i hi => by
  rw [bb_bit (by omega) hi]
  by_cases h : w = i
  · subst h; simp [hw]
  · rw [decide_eq_false h, Bool.and_false])
theorem bb_L0 (m : Nat) : bb_L (fun _ => false) m = 0 := by
  induction m with
  | zero => rfl
  | succ m ih => exact ih
theorem bb_in (x : Int64) {w : Nat} (hw : w < 64) : ((x.toUInt64 >>> ((nI w).toInt64.toUInt64 &&& Int64.toUInt64 63)).toInt64 &&& 1) = 0 ↔ bb_g x w = false :=
  ts_bit hw (by rw [wb_cu w hw]; exact u_tn (by omega))
theorem bb_Lin {S : Nat → Bool} {m w : Nat} (hm : m ≤ 64) (hw : w < m) : (((bb_L S m).toUInt64 >>> ((nI w).toInt64.toUInt64 &&& Int64.toUInt64 63)).toInt64 &&& 1) = 0 ↔ S w = false := by
  rw [bb_in _ (by omega), bb_gL _ _ hm w (by omega), decide_eq_true hw, Bool.true_and]
theorem bb_Lz {S : Nat → Bool} {m : Nat} (hm : m ≤ 64) : bb_L S m = 0 ↔ ∀ w, w < m → S w = false := by
  constructor
  · intro h w hw
    have e := bb_gL S m hm w (by omega)
    rw [h, bb_0, decide_eq_true hw, Bool.true_and] at e
    exact e.symm
  · intro h
    exact (bb_Lc h).trans (bb_L0 m)
/-! turning one variable -/
def bb_tF (n v i : Nat) : Bool := (decide (i ^^^ 2 ^ v = 2 ^ v + i) && Nat.testBit (2 ^ v + i) v) && ((decide (2 ^ v + i < 2 ^ n) == decide (i < 2 ^ n)) && (!decide (2 ^ v ≤ i) || Nat.testBit (i - 2 ^ v) v))
def bb_tT (v i : Nat) : Bool := (decide (2 ^ v ≤ i) && decide (i ^^^ 2 ^ v = i - 2 ^ v)) && (!Nat.testBit (i - 2 ^ v) v && !Nat.testBit (2 ^ v + i) v)
theorem bb_tF1 : ∀ n, n < 7 → ∀ v, v < n → ∀ i, i < 64 → (Nat.testBit i v || bb_tF n v i) = true := by decide +kernel
theorem bb_tT1 : ∀ v, v < 6 → ∀ i, i < 64 → (!Nat.testBit i v || bb_tT v i) = true := by decide +kernel
theorem bb_tnF (n : Nat) (hn : n < 7) (v : Nat) (hv : v < n) (i : Nat) (hi : i < 64) (hb : Nat.testBit i v = false) : (i ^^^ 2 ^ v = 2 ^ v + i ∧ Nat.testBit (2 ^ v + i) v = true) ∧ (decide (2 ^ v + i < 2 ^ n) = decide (i < 2 ^ n) ∧ (2 ^ v ≤ i → Nat.testBit (i - 2 ^ v) v = true)) := by
  have h := bb_tF1 n hn v hv i hi
  rw [hb, Bool.false_or, bb_tF, Bool.and_eq_true, Bool.and_eq_true, Bool.and_eq_true, decide_eq_true_eq, Bool.or_eq_true] at h
  obtain ⟨⟨h1, h2⟩, h3, h4⟩ := h
  refine ⟨⟨h1, h2⟩, eq_of_beq h3, fun z => h4.resolve_left (fun q => ?_)⟩
  rw [decide_eq_true z] at q
  exact absurd q (by decide)
theorem bb_tnT (n : Nat) (hn : n < 7) (v : Nat) (hv : v < n) (i : Nat) (hi : i < 64) (hb : Nat.testBit i v = true) : (2 ^ v ≤ i ∧ i ^^^ 2 ^ v = i - 2 ^ v) ∧ (Nat.testBit (i - 2 ^ v) v = false ∧ Nat.testBit (2 ^ v + i) v = false) := by
  have h := bb_tT1 v (by omega) i hi
  rw [hb, Bool.not_true, Bool.false_or, bb_tT, Bool.and_eq_true, Bool.and_eq_true, Bool.and_eq_true, decide_eq_true_eq, decide_eq_true_eq, Bool.not_eq_true', Bool.not_eq_true'] at h
  exact h
theorem bb_tnU : ∀ n, n < 7 → ∀ v, v < n → ∀ i, i < 64 → Nat.testBit i v = true → decide (i - 2 ^ v < 2 ^ n) = decide (i < 2 ^ n) := by decide +kernel
theorem bb_p2 : ∀ v, v < 6 → 2 ^ v < 64 := by decide
theorem bb_W : ∀ n, n < 7 → 2 ^ n ≤ 64 := by decide
theorem bb_step : ∀ v, v < 7 → (1 : Int32) <<< (nI v &&& 31) = nI (2 ^ v) := by decide +kernel
theorem bb_turn {n v : Nat} {S : Nat → Bool} (hn : n < 7) (hv : v < n) : (((bb_L S (2 ^ n) &&& bb_L (fun w => Nat.testBit w v) (2 ^ n)).toUInt64 >>> ((nI (2 ^ v)).toInt64.toUInt64 &&& Int64.toUInt64 63)).toInt64 ||| ((bb_L S (2 ^ n) &&& (bb_L (fun w => Nat.testBit w v) (2 ^ n) ^^^ (-1))) <<< ((nI (2 ^ v)).toInt64 &&& 63))) = bb_L (fun w => S (w ^^^ 2 ^ v)) (2 ^ n) := by
  have hW := bb_W n hn
  have hp := bb_p2 v (by omega)
  refine bb_Lx hW (fun i hi => ?_)
  rw [bb_or, bb_ushr _ hp, bb_shl _ hp _ hi, bb_Land hW, bb_Ldiff hW]
  have e2 : bb_g (bb_L (fun w => S w && !Nat.testBit w v) (2 ^ n)) (i - 2 ^ v) = (decide (i - 2 ^ v < 2 ^ n) && (S (i - 2 ^ v) && !Nat.testBit (i - 2 ^ v) v)) := bb_gL _ _ hW _ (Nat.lt_of_le_of_lt (Nat.sub_le _ _) hi)
  have e1 : bb_g (bb_L (fun w => S w && Nat.testBit w v) (2 ^ n)) (2 ^ v + i) = (decide (2 ^ v + i < 2 ^ n) && (S (2 ^ v + i) && Nat.testBit (2 ^ v + i) v)) := by
    by_cases h : 2 ^ v + i < 64
    · exact bb_gL _ _ hW _ h
    · rw [decide_eq_false (show ¬ 2 ^ v + i < 2 ^ n by omega), Bool.false_and]
      exact BitVec.getLsbD_of_ge _ _ (by omega)
  rw [e1, e2]
  show _ = (decide (i < 2 ^ n) && S (i ^^^ 2 ^ v))
  cases hb : Nat.testBit i v
  · obtain ⟨⟨h1, h2⟩, h3, h4⟩ := bb_tnF n hn v hv i hi hb
    rw [h1, h2, h3]
    by_cases hle : 2 ^ v ≤ i
    · rw [h4 hle]; simp
    · rw [decide_eq_false hle]; simp
  · obtain ⟨⟨h1, h2⟩, h3, h4⟩ := bb_tnT n hn v hv i hi hb
    have h5 := bb_tnU n hn v hv i hi hb
    rw [h2, h3, h4, h5, decide_eq_true h1]; simp
end
section
/-! counts, some, least, greatest, sums below m -/
def pm_cn (S : Nat → Bool) : Nat → Nat
  | 0 => 0
  | m + 1 => if S m = true then pm_cn S m + 1 else pm_cn S m
theorem pm_cn_le (S : Nat → Bool) : ∀ m, pm_cn S m ≤ m := by
  intro m
  induction m with
  | zero => exact Nat.le_refl 0
  | succ m ih =>
    show (if S m = true then pm_cn S m + 1 else pm_cn S m) ≤ m + 1
    split <;> omega
theorem pm_cn_c {S T : Nat → Bool} : ∀ {m : Nat}, (∀ i, i < m → S i = T i) → pm_cn S m = pm_cn T m := by
  intro m
  induction m with
  | zero => intro _; rfl
  | succ m ih =>
    intro h
    show (if S m = true then pm_cn S m + 1 else pm_cn S m) = (if T m = true then pm_cn T m + 1 else pm_cn T m)
    rw [ih (fun i hi => h i (by omega)), h m (by omega)]
theorem pm_cn_0 (S : Nat → Bool) : ∀ m, pm_cn S m = 0 ↔ ∀ i, i < m → S i = false := by
  intro m
  induction m with
  | zero => exact ⟨fun _ i hi => absurd hi (by omega), fun _ => rfl⟩
  | succ m ih =>
    by_cases h : S m = true
    · have e : pm_cn S (m + 1) = pm_cn S m + 1 := if_pos h
      rw [e]
      exact ⟨fun z => absurd z (by omega), fun z => absurd (z m (by omega)) (by rw [h]; decide)⟩
    · have e : pm_cn S (m + 1) = pm_cn S m := if_neg h
      rw [e, ih]
      constructor
      · intro z i hi
        by_cases hm : i = m
        · subst hm; exact ts_nt h
        · exact z i (by omega)
      · exact fun z i hi => z i (by omega)
def pm_ex (P : Nat → Bool) : Nat → Bool
  | 0 => false
  | m + 1 => pm_ex P m || P m
theorem pm_ex_t (P : Nat → Bool) : ∀ m, pm_ex P m = true ↔ ∃ i, i < m ∧ P i = true := by
  intro m
  induction m with
  | zero => exact ⟨fun z => Bool.noConfusion (show false = true from z), fun ⟨i, hi, _⟩ => absurd hi (by omega)⟩
  | succ m ih =>
    show (pm_ex P m || P m) = true ↔ _
    rw [Bool.or_eq_true, ih]
    constructor
    · rintro (⟨i, hi, h⟩ | h)
      · exact ⟨i, by omega, h⟩
      · exact ⟨m, by omega, h⟩
    · rintro ⟨i, hi, h⟩
      by_cases hm : i = m
      · subst hm; exact Or.inr h
      · exact Or.inl ⟨i, by omega, h⟩
theorem pm_ex_f (P : Nat → Bool) (m : Nat) : pm_ex P m = false ↔ ∀ i, i < m → P i = false := by
  constructor
  · intro h i hi
    cases hp : P i
    · rfl
    · exact absurd ((pm_ex_t P m).mpr ⟨i, hi, hp⟩) (by rw [h]; decide)
  · intro h
    cases hp : pm_ex P m
    · rfl
    · obtain ⟨i, hi, h2⟩ := (pm_ex_t P m).mp hp
      exact absurd h2 (by rw [h i hi]; decide)
theorem pm_ex_c {P Q : Nat → Bool} {m : Nat} (h : ∀ i, i < m → P i = Q i) : pm_ex P m = pm_ex Q m := by
  induction m with
  | zero => rfl
  | succ m ih =>
    show (pm_ex P m || P m) = (pm_ex Q m || Q m)
    rw [ih (fun i hi => h i (by omega)), h m (by omega)]
theorem pm_beq {a b : Bool} (h : a = true ↔ b = true) : a = b := by
  cases a <;> cases b
  · rfl
  · exact absurd (h.mpr rfl) (by decide)
  · exact absurd (h.mp rfl) (by decide)
  · rfl
def pm_mn (C : Nat → Bool) (D : Nat → Nat) (z : Nat) : Nat → Nat
  | 0 => z
  | m + 1 => if C m = true then (if D m < pm_mn C D z m then D m else pm_mn C D z m) else pm_mn C D z m
theorem pm_mn_s (C : Nat → Bool) (D : Nat → Nat) (z m : Nat) : pm_mn C D z (m + 1) = if C m = true then (if D m < pm_mn C D z m then D m else pm_mn C D z m) else pm_mn C D z m := rfl
theorem pm_mn_z (C : Nat → Bool) (D : Nat → Nat) (z : Nat) : ∀ m, pm_mn C D z m ≤ z := by
  intro m
  induction m with
  | zero => exact Nat.le_refl z
  | succ m ih => rw [pm_mn_s]; split <;> (try split) <;> omega
theorem pm_mn_le (C : Nat → Bool) (D : Nat → Nat) (z : Nat) : ∀ m i, i < m → C i = true → pm_mn C D z m ≤ D i := by
  intro m
  induction m with
  | zero => intro i hi; omega
  | succ m ih =>
    intro i hi hC
    rw [pm_mn_s]
    by_cases hm : i = m
    · subst hm; rw [if_pos hC]; split <;> omega
    · have := ih i (by omega) hC
      split <;> (try split) <;> omega
theorem pm_mn_at (C : Nat → Bool) (D : Nat → Nat) (z : Nat) : ∀ m, pm_mn C D z m = z ∨ ∃ i, i < m ∧ C i = true ∧ pm_mn C D z m = D i := by
  intro m
  induction m with
  | zero => exact Or.inl rfl
  | succ m ih =>
    rw [pm_mn_s]
    have keep : pm_mn C D z m = z ∨ ∃ i, i < m + 1 ∧ C i = true ∧ pm_mn C D z m = D i := by
      rcases ih with h | ⟨i, hi, h1, h2⟩
      · exact Or.inl h
      · exact Or.inr ⟨i, by omega, h1, h2⟩
    split
    · next hC =>
      split
      · exact Or.inr ⟨m, by omega, hC, rfl⟩
      · exact keep
    · exact keep
theorem pm_mn_ge (C : Nat → Bool) (D : Nat → Nat) {z k m : Nat} (hz : k ≤ z) (h : ∀ i, i < m → C i = true → k ≤ D i) : k ≤ pm_mn C D z m := by
  rcases pm_mn_at C D z m with e | ⟨i, hi, h1, h2⟩
  · omega
  · rw [h2]; exact h i hi h1
theorem pm_mn_c {C C' : Nat → Bool} {D D' : Nat → Nat} {z : Nat} : ∀ {m : Nat}, (∀ i, i < m → C i = C' i) → (∀ i, i < m → D i = D' i) → pm_mn C D z m = pm_mn C' D' z m := by
  intro m
  induction m with
  | zero => intro _ _; rfl
  | succ m ih =>
    intro h h'
    rw [pm_mn_s, pm_mn_s, ih (fun i hi => h i (by omega)) (fun i hi => h' i (by omega)), h m (by omega), h' m (by omega)]
theorem pm_mn_iff {C : Nat → Bool} {D : Nat → Nat} {z m w : Nat} (hz : ∀ i, i < m → C i = true → D i ≤ z) (hw : w < m) (hC : C w = true) : D w = pm_mn C D z m ↔ ∀ i, i < m → C i = true → D w ≤ D i := by
  constructor
  · intro h i hi hi2
    rw [h]; exact pm_mn_le C D z m i hi hi2
  · intro h
    have h1 := pm_mn_le C D z m w hw hC
    have h2 := pm_mn_ge C D (z := z) (k := D w) (m := m) (hz w hw hC) h
    omega
def pm_mx (C : Nat → Bool) (D : Nat → Nat) : Nat → Nat
  | 0 => 0
  | m + 1 => if C m = true then (if pm_mx C D m < D m then D m else pm_mx C D m) else pm_mx C D m
def pm_sm (f : Nat → Nat) : Nat → Nat
  | 0 => 0
  | m + 1 => pm_sm f m + f m
theorem pm_sm_c {f g : Nat → Nat} : ∀ {m : Nat}, (∀ i, i < m → f i = g i) → pm_sm f m = pm_sm g m := by
  intro m
  induction m with
  | zero => intro _; rfl
  | succ m ih =>
    intro h
    show pm_sm f m + f m = pm_sm g m + g m
    rw [ih (fun i hi => h i (by omega)), h m (by omega)]
theorem pm_sm_0 (f : Nat → Nat) : ∀ m, pm_sm f (m + 1) = f 0 + pm_sm (fun i => f (i + 1)) m := by
  intro m
  induction m with
  | zero => exact Nat.add_comm _ _
  | succ m ih =>
    show pm_sm f (m + 1) + f (m + 1) = f 0 + (pm_sm (fun i => f (i + 1)) m + f (m + 1))
    rw [ih, Nat.add_assoc]
theorem pm_sm_rev (f : Nat → Nat) : ∀ m, pm_sm f m = pm_sm (fun i => f (m - (i + 1))) m := by
  intro m
  induction m with
  | zero => rfl
  | succ m ih =>
    rw [pm_sm_0 (fun i => f (m + 1 - (i + 1))) m]
    show pm_sm f m + f m = f (m + 1 - (0 + 1)) + pm_sm (fun i => f (m + 1 - (i + 1 + 1))) m
    rw [ih, show m + 1 - (0 + 1) = m by omega, Nat.add_comm, pm_sm_c (f := fun i => f (m + 1 - (i + 1 + 1))) (g := fun i => f (m - (i + 1)))]
    intro i _
    exact congrArg f (by omega)
theorem pm_sm_le (f : Nat → Nat) (c : Nat) : ∀ m, (∀ i, i < m → f i ≤ c) → pm_sm f m ≤ m * c := by
  intro m
  induction m with
  | zero => intro _; exact Nat.zero_le _
  | succ m ih =>
    intro h
    show pm_sm f m + f m ≤ (m + 1) * c
    have h1 := ih (fun i hi => h i (by omega))
    have h2 := h m (by omega)
    rw [Nat.add_mul]; omega
/-! distances of worlds -/
def pm_pc (n z : Nat) : Nat := pm_cn (fun v => Nat.testBit z v) n
theorem pm_pc_le (n z : Nat) : pm_pc n z ≤ n := pm_cn_le _ _
theorem pm_pc1 : ∀ n, n < 7 → ∀ z, z < 2 ^ n → ∀ v, v < n → pm_pc n z ≤ pm_pc n (z ^^^ 2 ^ v) + 1 := by decide +kernel
theorem pm_pc2 : ∀ n, n < 7 → ∀ z, z < 2 ^ n → pm_pc n z = 0 ∨ pm_ex (fun v => decide (pm_pc n (z ^^^ 2 ^ v) + 1 = pm_pc n z)) n = true := by decide +kernel
theorem pm_pc0 : ∀ n, n < 7 → ∀ z, z < 2 ^ n → (pm_pc n z ≤ 0 ↔ z = 0) := by decide +kernel
theorem pm_xlt {n a b : Nat} (ha : a < 2 ^ n) (hb : b < 2 ^ n) : a ^^^ b < 2 ^ n := Nat.xor_lt_two_pow ha hb
theorem pm_plt {n v : Nat} (h : v < n) : 2 ^ v < 2 ^ n := Nat.pow_lt_pow_right (by decide) h
theorem pm_x0 {a b : Nat} : a ^^^ b = 0 ↔ a = b := by
  constructor
  · intro h
    have e : (a ^^^ b) ^^^ b = a := by rw [Nat.xor_assoc, Nat.xor_self, Nat.xor_zero]
    rw [h, Nat.zero_xor] at e
    exact e.symm
  · intro h; rw [h, Nat.xor_self]
/-- the distance of the world u from the set S -/
def pm_ds (n : Nat) (S : Nat → Bool) (u : Nat) : Nat := pm_mn S (fun w => pm_pc n (u ^^^ w)) (n + 1) (2 ^ n)
theorem pm_ds_z (n : Nat) (S : Nat → Bool) (u : Nat) : pm_ds n S u ≤ n + 1 := pm_mn_z _ _ _ _
theorem pm_ds_le {n : Nat} {S : Nat → Bool} {u w : Nat} (hw : w < 2 ^ n) (hS : S w = true) : pm_ds n S u ≤ pm_pc n (u ^^^ w) := pm_mn_le S (fun w => pm_pc n (u ^^^ w)) _ _ w hw hS
theorem pm_ds_n {n : Nat} {S : Nat → Bool} {u w : Nat} (hw : w < 2 ^ n) (hS : S w = true) : pm_ds n S u ≤ n := Nat.le_trans (pm_ds_le hw hS) (pm_pc_le _ _)
theorem pm_ds_ge {n : Nat} {S : Nat → Bool} {u k : Nat} (hk : k ≤ n + 1) (h : ∀ w, w < 2 ^ n → S w = true → k ≤ pm_pc n (u ^^^ w)) : k ≤ pm_ds n S u := pm_mn_ge S _ hk h
/-- the worlds within k of u -/
def pm_wk (n u k : Nat) : Nat → Bool := fun w => decide (pm_pc n (u ^^^ w) ≤ k)
def pm_wd (S : Nat → Bool) : Nat → Nat → Bool
  | 0 => S
  | m + 1 => fun w => pm_wd S m w || S (w ^^^ 2 ^ m)
theorem pm_wd_ex (S : Nat → Bool) (w : Nat) : ∀ m, pm_wd S m w = (S w || pm_ex (fun v => S (w ^^^ 2 ^ v)) m) := by
  intro m
  induction m with
  | zero => exact (Bool.or_false _).symm
  | succ m ih =>
    show (pm_wd S m w || S (w ^^^ 2 ^ m)) = (S w || (pm_ex (fun v => S (w ^^^ 2 ^ v)) m || S (w ^^^ 2 ^ m)))
    rw [ih, Bool.or_assoc]
theorem pm_wd_wk {n u w k : Nat} (hn : n < 7) (hu : u < 2 ^ n) (hw : w < 2 ^ n) : pm_wd (pm_wk n u k) n w = pm_wk n u (k + 1) w := by
  rw [pm_wd_ex]
  apply pm_beq
  have hz : u ^^^ w < 2 ^ n := pm_xlt hu hw
  rw [Bool.or_eq_true, pm_ex_t]
  unfold pm_wk
  simp only [decide_eq_true_eq, ← Nat.xor_assoc]
  generalize u ^^^ w = z at hz
  constructor
  · rintro (h | ⟨v, hv, h⟩)
    · omega
    · have := pm_pc1 n hn z hz v hv
      omega
  · intro h
    by_cases h1 : pm_pc n z ≤ k
    · exact Or.inl h1
    · rcases pm_pc2 n hn z hz with h2 | h2
      · omega
      · obtain ⟨v, hv, h3⟩ := (pm_ex_t _ _).mp h2
        have h4 := of_decide_eq_true h3
        exact Or.inr ⟨v, hv, by omega⟩
theorem pm_wk0 {n u w : Nat} (hn : n < 7) (hu : u < 2 ^ n) (hw : w < 2 ^ n) : pm_wk n u 0 w = decide (u = w) := by
  apply pm_beq
  unfold pm_wk
  rw [decide_eq_true_eq, decide_eq_true_eq, pm_pc0 n hn _ (pm_xlt hu hw), pm_x0]
/-! the nearest -/
def pm_nr (C : Nat → Bool) (D : Nat → Nat) (z i : Nat) : Nat → Bool := fun w => decide (w < i) && (C w && decide (D w = pm_mn C D z i))
theorem pm_nr_skip {C : Nat → Bool} {D : Nat → Nat} {z i : Nat} (h : C i = false ∨ pm_mn C D z i < D i) (w : Nat) : pm_nr C D z (i + 1) w = pm_nr C D z i w := by
  have e : pm_mn C D z (i + 1) = pm_mn C D z i := by
    rw [pm_mn_s]
    rcases h with h | h
    · rw [if_neg (by rw [h]; decide)]
    · split
      · rw [if_neg (by omega)]
      · rfl
  unfold pm_nr
  rw [e, bb_lts]
  by_cases hw : i = w
  · subst hw
    rw [decide_eq_false (Nat.lt_irrefl i), Bool.false_and]
    rcases h with h | h
    · rw [h, Bool.false_and, Bool.and_false]
    · rw [decide_eq_false (show ¬ D i = pm_mn C D z i by omega), Bool.and_false, Bool.and_false]
  · rw [decide_eq_false hw, Bool.or_false]
theorem pm_nr_eq {C : Nat → Bool} {D : Nat → Nat} {z i : Nat} (hC : C i = true) (h : D i = pm_mn C D z i) (w : Nat) : pm_nr C D z (i + 1) w = (pm_nr C D z i w || decide (i = w)) := by
  have e : pm_mn C D z (i + 1) = pm_mn C D z i := by rw [pm_mn_s, if_pos hC, if_neg (by omega)]
  unfold pm_nr
  rw [e, bb_lts]
  by_cases hw : i = w
  · subst hw
    rw [decide_eq_true (rfl : i = i), hC, decide_eq_true h, Bool.or_true, Bool.or_true]; rfl
  · rw [decide_eq_false hw, Bool.or_false, Bool.or_false]
theorem pm_nr_lt {C : Nat → Bool} {D : Nat → Nat} {z i : Nat} (hC : C i = true) (h : D i < pm_mn C D z i) (w : Nat) : pm_nr C D z (i + 1) w = decide (i = w) := by
  have e : pm_mn C D z (i + 1) = D i := by rw [pm_mn_s, if_pos hC, if_pos h]
  unfold pm_nr
  rw [e, bb_lts]
  by_cases hw : i = w
  · subst hw
    rw [decide_eq_true (rfl : i = i), hC, decide_eq_true (rfl : D i = D i), Bool.or_true]; rfl
  · rw [decide_eq_false hw, Bool.or_false]
    by_cases h1 : w < i
    · cases h2 : C w
      · rw [Bool.false_and, Bool.and_false]
      · have := pm_mn_le C D z i w h1 h2
        rw [decide_eq_false (show ¬ D w = D i by omega), Bool.and_false, Bool.and_false]
    · rw [decide_eq_false h1, Bool.false_and]
theorem pm_near {C : Nat → Bool} {D E : Nat → Nat} {z y m w : Nat} (hz : ∀ i, i < m → D i ≤ z) (hy : ∀ i, i < m → E i ≤ y) (hDE : ∀ i j, i < m → j < m → (D i ≤ D j ↔ E i ≤ E j)) (hw : w < m) : pm_nr C D z m w = (C w && decide (E w = pm_mn C E y m)) := by
  unfold pm_nr
  rw [decide_eq_true hw, Bool.true_and]
  cases hC : C w
  · rfl
  · rw [Bool.true_and, Bool.true_and]
    apply pm_beq
    rw [decide_eq_true_eq, decide_eq_true_eq, pm_mn_iff (fun i hi _ => hz i hi) hw hC, pm_mn_iff (fun i hi _ => hy i hi) hw hC]
    exact ⟨fun h i hi h2 => (hDE w i hw hi).mp (h i hi h2), fun h i hi h2 => (hDE w i hw hi).mpr (h i hi h2)⟩
end
section
/-! cubes: X by the open variables o, Y by the fixed ones f = 2^n - (o + 1) -/
def pq_in (o : Nat) (B : Nat → Bool) : Nat → Nat → Bool
  | 0 => B
  | v + 1 => fun w => if Nat.testBit o v = true then (pq_in o B v w && pq_in o B v (w ^^^ 2 ^ v)) else pq_in o B v w
theorem pq_tx_self (w v : Nat) : Nat.testBit (w ^^^ 2 ^ v) v = !Nat.testBit w v := by
  rw [Nat.testBit_xor, Nat.testBit_two_pow_self, Bool.xor_true]
theorem pq_tx_ne {w v i : Nat} (h : i ≠ v) : Nat.testBit (w ^^^ 2 ^ v) i = Nat.testBit w i := by
  rw [Nat.testBit_xor, Nat.testBit_two_pow_of_ne (Ne.symm h), Bool.xor_false]
theorem pq_hi {n w i : Nat} (hw : w < 2 ^ n) (h : n ≤ i) : Nat.testBit w i = false :=
  Nat.testBit_lt_two_pow (Nat.lt_of_lt_of_le hw (Nat.pow_le_pow_right (by decide) h))
theorem pq_eq {n x w : Nat} (hx : x < 2 ^ n) (hw : w < 2 ^ n) (h : ∀ i, i < n → Nat.testBit x i = Nat.testBit w i) : x = w := by
  apply Nat.eq_of_testBit_eq
  intro i
  by_cases hi : i < n
  · exact h i hi
  · rw [pq_hi hx (by omega), pq_hi hw (by omega)]
theorem pq_in_iff {n o : Nat} {B : Nat → Bool} : ∀ v, v ≤ n → ∀ w, w < 2 ^ n → (pq_in o B v w = true ↔ ∀ x, x < 2 ^ n → (∀ i, i < n → (v ≤ i ∨ Nat.testBit o i = false) → Nat.testBit x i = Nat.testBit w i) → B x = true) := by
  intro v
  induction v with
  | zero =>
    intro _ w hw
    constructor
    · intro h x hx hxw
      have e : x = w := pq_eq hx hw (fun i hi => hxw i hi (Or.inl (Nat.zero_le i)))
      rw [e]; exact h
    · intro h
      exact h w hw (fun _ _ _ => rfl)
  | succ v ih =>
    intro hv w hw
    have hw2 : w ^^^ 2 ^ v < 2 ^ n := pm_xlt hw (pm_plt (by omega))
    have ih1 := ih (by omega) w hw
    have ih2 := ih (by omega) (w ^^^ 2 ^ v) hw2
    show (if Nat.testBit o v = true then (pq_in o B v w && pq_in o B v (w ^^^ 2 ^ v)) else pq_in o B v w) = true ↔ _
    by_cases ho : Nat.testBit o v = true
    · rw [if_pos ho, Bool.and_eq_true, ih1, ih2]
      constructor
      · rintro ⟨h1, h2⟩ x hx hxw
        by_cases hb : Nat.testBit x v = Nat.testBit w v
        · refine h1 x hx (fun i hi hc => ?_)
          by_cases hiv : i = v
          · rw [hiv]; exact hb
          · exact hxw i hi (by rcases hc with c | c
                               · exact Or.inl (by omega)
                               · exact Or.inr c)
        · refine h2 x hx (fun i hi hc => ?_)
          by_cases hiv : i = v
          · rw [hiv, pq_tx_self]
            revert hb
            cases Nat.testBit x v <;> cases Nat.testBit w v <;> simp
          · rw [pq_tx_ne hiv]
            exact hxw i hi (by rcases hc with c | c
                               · exact Or.inl (by omega)
                               · exact Or.inr c)
      · intro h
        constructor
        · intro x hx hxw
          exact h x hx (fun i hi hc => hxw i hi (by rcases hc with c | c
                                                    · exact Or.inl (by omega)
                                                    · exact Or.inr c))
        · intro x hx hxw
          refine h x hx (fun i hi hc => ?_)
          have hiv : i ≠ v := by
            intro e
            rcases hc with c | c
            · omega
            · rw [e, ho] at c; exact absurd c (by decide)
          rw [← pq_tx_ne (w := w) hiv]
          exact hxw i hi (by rcases hc with c | c
                             · exact Or.inl (by omega)
                             · exact Or.inr c)
    · rw [if_neg ho, ih1]
      have hof := ts_nt ho
      constructor
      · intro h x hx hxw
        refine h x hx (fun i hi hc => hxw i hi ?_)
        by_cases hiv : i = v
        · rw [hiv]; exact Or.inr hof
        · rcases hc with c | c
          · exact Or.inl (by omega)
          · exact Or.inr c
      · intro h x hx hxw
        refine h x hx (fun i hi hc => hxw i hi ?_)
        rcases hc with c | c
        · exact Or.inl (by omega)
        · exact Or.inr c
theorem pq_in_n {n o w : Nat} {B : Nat → Bool} (hw : w < 2 ^ n) : pq_in o B n w = true ↔ ∀ x, x < 2 ^ n → (∀ i, i < n → Nat.testBit o i = false → Nat.testBit x i = Nat.testBit w i) → B x = true := by
  rw [pq_in_iff n (Nat.le_refl n) w hw]
  constructor
  · intro h x hx hxw
    exact h x hx (fun i hi hc => hxw i hi (by rcases hc with c | c
                                              · omega
                                              · exact c))
  · intro h x hx hxw
    exact h x hx (fun i hi hc => hxw i hi (Or.inr hc))
/-- X: the prime cubes that leave just o open, each by its least world -/
def pq_px (n o : Nat) (B : Nat → Bool) : Nat → Nat → Bool
  | 0 => pq_in o B n
  | v + 1 => fun w => if Nat.testBit o v = true then (pq_px n o B v w && !Nat.testBit w v) else (pq_px n o B v w && !pq_in o B n (w ^^^ 2 ^ v))
theorem pq_px_iff {n o w : Nat} {B : Nat → Bool} : ∀ m, pq_px n o B m w = true ↔ pq_in o B n w = true ∧ ∀ v, v < m → (Nat.testBit o v = true → Nat.testBit w v = false) ∧ (Nat.testBit o v = false → pq_in o B n (w ^^^ 2 ^ v) = false) := by
  intro m
  induction m with
  | zero => exact ⟨fun h => ⟨h, fun v hv => absurd hv (by omega)⟩, fun h => h.1⟩
  | succ m ih =>
    show (if Nat.testBit o m = true then (pq_px n o B m w && !Nat.testBit w m) else (pq_px n o B m w && !pq_in o B n (w ^^^ 2 ^ m))) = true ↔ _
    by_cases ho : Nat.testBit o m = true
    · rw [if_pos ho, Bool.and_eq_true, ih, Bool.not_eq_true']
      constructor
      · rintro ⟨⟨h1, h2⟩, h3⟩
        refine ⟨h1, fun v hv => ?_⟩
        by_cases e : v = m
        · subst e; exact ⟨fun _ => h3, fun z => absurd (ho.symm.trans z) (by decide)⟩
        · exact h2 v (by omega)
      · rintro ⟨h1, h2⟩
        exact ⟨⟨h1, fun v hv => h2 v (by omega)⟩, (h2 m (by omega)).1 ho⟩
    · have hof := ts_nt ho
      rw [if_neg ho, Bool.and_eq_true, ih, Bool.not_eq_true']
      constructor
      · rintro ⟨⟨h1, h2⟩, h3⟩
        refine ⟨h1, fun v hv => ?_⟩
        by_cases e : v = m
        · subst e; exact ⟨fun z => absurd z ho, fun _ => h3⟩
        · exact h2 v (by omega)
      · rintro ⟨h1, h2⟩
        exact ⟨⟨h1, fun v hv => h2 v (by omega)⟩, (h2 m (by omega)).2 hof⟩
/-- Y: the cube that fixes f to c lies inside B -/
def pq_iy (n f c : Nat) (B : Nat → Bool) : Bool := !pm_ex (fun x => decide (x &&& f = c) && !B x) (2 ^ n)
theorem pq_iy_t {n f c : Nat} {B : Nat → Bool} : pq_iy n f c B = true ↔ ∀ x, x < 2 ^ n → x &&& f = c → B x = true := by
  unfold pq_iy
  rw [Bool.not_eq_true', pm_ex_f]
  constructor
  · intro h x hx e
    have h2 := h x hx
    rw [decide_eq_true e, Bool.true_and, Bool.not_eq_false'] at h2
    exact h2
  · intro h x hx
    by_cases e : x &&& f = c
    · rw [h x hx e, Bool.not_true, Bool.and_false]
    · rw [decide_eq_false e, Bool.false_and]
theorem pq_iy_w {n f w : Nat} {B : Nat → Bool} (hw : w < 2 ^ n) : pq_iy n f (w &&& f) B = true ↔ ∀ x, x < 2 ^ n → (∀ i, i < n → Nat.testBit f i = true → Nat.testBit x i = Nat.testBit w i) → B x = true := by
  rw [pq_iy_t]
  constructor
  · intro h x hx hxw
    refine h x hx (pq_eq (n := n) (Nat.lt_of_le_of_lt Nat.and_le_left hx) (Nat.lt_of_le_of_lt Nat.and_le_left hw) (fun i hi => ?_))
    rw [Nat.testBit_and, Nat.testBit_and]
    cases hf : Nat.testBit f i
    · rw [Bool.and_false, Bool.and_false]
    · rw [hxw i hi hf]
  · intro h x hx e
    refine h x hx (fun i hi hf => ?_)
    have e2 := congrArg (fun z => Nat.testBit z i) e
    simp only [Nat.testBit_and, hf, Bool.and_true] at e2
    exact e2
/-- the fixed variables without v -/
def pq_fv (f v : Nat) : Nat := if Nat.testBit f v = true then f ^^^ 2 ^ v else f
def pq_py (n f w : Nat) (B : Nat → Bool) : Bool := pq_iy n f w B && !pm_ex (fun v => decide (pq_fv f v ≠ f) && pq_iy n (pq_fv f v) (w &&& pq_fv f v) B) n
theorem pq_fv_ne (f v : Nat) : pq_fv f v ≠ f ↔ Nat.testBit f v = true := by
  unfold pq_fv
  by_cases h : Nat.testBit f v = true
  · rw [if_pos h]
    refine ⟨fun _ => h, fun _ e => ?_⟩
    have e2 := congrArg (fun z => Nat.testBit z v) e
    simp only [pq_tx_self, h] at e2
    exact absurd e2 (by decide)
  · rw [if_neg h]
    exact ⟨fun z => absurd rfl z, fun z => absurd z h⟩
theorem pq_prime {n o w : Nat} {B : Nat → Bool} (ho : o < 2 ^ n) (hw : w < 2 ^ n) : pq_px n o B n w = (decide (w &&& (2 ^ n - (o + 1)) = w) && pq_py n (2 ^ n - (o + 1)) w B) := by
  have hf : ∀ i, i < n → Nat.testBit (2 ^ n - (o + 1)) i = !Nat.testBit o i := by
    intro i hi
    rw [Nat.testBit_two_pow_sub_succ ho, decide_eq_true hi, Bool.true_and]
  generalize 2 ^ n - (o + 1) = f at hf
  apply pm_beq
  rw [pq_px_iff, Bool.and_eq_true, decide_eq_true_eq]
  have hwf : w &&& f = w ↔ ∀ v, v < n → Nat.testBit o v = true → Nat.testBit w v = false := by
    constructor
    · intro e v hv hov
      have e2 := congrArg (fun z => Nat.testBit z v) e
      simp only [Nat.testBit_and, hf v hv, hov, Bool.not_true, Bool.and_false] at e2
      exact e2.symm
    · intro h
      refine pq_eq (n := n) (Nat.lt_of_le_of_lt Nat.and_le_left hw) hw (fun i hi => ?_)
      rw [Nat.testBit_and, hf i hi]
      cases hoi : Nat.testBit o i
      · simp
      · rw [h i hi hoi]; rfl
  have hin : ∀ x, x < 2 ^ n → (pq_iy n f (x &&& f) B = true ↔ pq_in o B n x = true) := by
    intro x hx
    rw [pq_iy_w hx, pq_in_n hx]
    constructor
    · intro h y hy hyx
      refine h y hy (fun i hi hfi => hyx i hi ?_)
      rw [hf i hi, Bool.not_eq_true'] at hfi
      exact hfi
    · intro h y hy hyx
      refine h y hy (fun i hi hoi => hyx i hi ?_)
      rw [hf i hi, hoi]; rfl
  have hnext : ∀ v, v < n → Nat.testBit o v = false → (pq_iy n (pq_fv f v) (w &&& pq_fv f v) B = true ↔ pq_in o B n w = true ∧ pq_in o B n (w ^^^ 2 ^ v) = true) := by
    intro v hv hov
    have hw2 : w ^^^ 2 ^ v < 2 ^ n := pm_xlt hw (pm_plt hv)
    have hfv : Nat.testBit f v = true := by rw [hf v hv, hov]; rfl
    have e : pq_fv f v = f ^^^ 2 ^ v := if_pos hfv
    rw [e, pq_iy_w hw, pq_in_n hw, pq_in_n hw2]
    constructor
    · intro h
      constructor
      · intro x hx hxw
        refine h x hx (fun i hi hfi => ?_)
        by_cases hiv : i = v
        · rw [hiv, pq_tx_self, hfv] at hfi; exact absurd hfi (by decide)
        · rw [pq_tx_ne hiv, hf i hi, Bool.not_eq_true'] at hfi
          exact hxw i hi hfi
      · intro x hx hxw
        refine h x hx (fun i hi hfi => ?_)
        by_cases hiv : i = v
        · rw [hiv, pq_tx_self, hfv] at hfi; exact absurd hfi (by decide)
        · rw [pq_tx_ne hiv, hf i hi, Bool.not_eq_true'] at hfi
          rw [hxw i hi hfi, pq_tx_ne hiv]
    · rintro ⟨h1, h2⟩ x hx hxw
      by_cases hb : Nat.testBit x v = Nat.testBit w v
      · refine h1 x hx (fun i hi hoi => ?_)
        by_cases hiv : i = v
        · rw [hiv]; exact hb
        · refine hxw i hi ?_
          rw [pq_tx_ne hiv, hf i hi, hoi]; rfl
      · refine h2 x hx (fun i hi hoi => ?_)
        by_cases hiv : i = v
        · rw [hiv, pq_tx_self]
          revert hb
          cases Nat.testBit x v <;> cases Nat.testBit w v <;> simp
        · rw [pq_tx_ne hiv]
          refine hxw i hi ?_
          rw [pq_tx_ne hiv, hf i hi, hoi]; rfl
  unfold pq_py
  rw [Bool.and_eq_true, Bool.not_eq_true', pm_ex_f]
  constructor
  · rintro ⟨h1, h2⟩
    have hwe : w &&& f = w := hwf.mpr (fun v hv hov => (h2 v hv).1 hov)
    have hi0 := (hin w hw).mpr h1
    rw [hwe] at hi0
    refine ⟨hwe, hi0, fun v hv => ?_⟩
    by_cases hov : Nat.testBit o v = true
    · have : ¬ pq_fv f v ≠ f := by
        rw [pq_fv_ne, hf v hv, hov]; decide
      rw [decide_eq_false this, Bool.false_and]
    · have hov := ts_nt hov
      have h3 := (h2 v hv).2 hov
      cases h4 : pq_iy n (pq_fv f v) (w &&& pq_fv f v) B
      · rw [Bool.and_false]
      · have h5 := ((hnext v hv hov).mp h4).2
        rw [h3] at h5; exact absurd h5 (by decide)
  · rintro ⟨hwe, h1, h2⟩
    rw [← hwe] at h1
    have h1' := (hin w hw).mp h1
    refine ⟨h1', fun v hv => ⟨fun hov => hwf.mp hwe v hv hov, fun hov => ?_⟩⟩
    have hfv : Nat.testBit f v = true := by rw [hf v hv, hov]; rfl
    have h3 := h2 v hv
    rw [decide_eq_true ((pq_fv_ne f v).mpr hfv), Bool.true_and] at h3
    cases h4 : pq_in o B n (w ^^^ 2 ^ v)
    · rfl
    · have h5 := (hnext v hv hov).mpr ⟨h1', h4⟩
      rw [h3] at h5; exact absurd h5 (by decide)
theorem pq_primes (n : Nat) (B : Nat → Bool) : pm_sm (fun o => pm_cn (pq_px n o B n) (2 ^ n)) (2 ^ n) = pm_sm (fun f => pm_cn (fun w => decide (w &&& f = w) && pq_py n f w B) (2 ^ n)) (2 ^ n) := by
  rw [pm_sm_rev (fun f => pm_cn (fun w => decide (w &&& f = w) && pq_py n f w B) (2 ^ n)) (2 ^ n)]
  apply pm_sm_c
  intro o ho
  exact pm_cn_c (fun w hw => pq_prime ho hw)
end
section
/-! ints that are worlds, variables, sets of variables; booleans -/
def bi_I (b : Bool) : Int32 := cond b 1 0
theorem bi_t : bi_I true = 1 := rfl
theorem bi_f : bi_I false = 0 := rfl
theorem bi_0 (b : Bool) : bi_I b = 0 ↔ b = false := by cases b <;> decide
theorem bi_1 (b : Bool) : bi_I b = 1 ↔ b = true := by cases b <;> decide
theorem bi_eq (a b : Bool) : bi_I a = bi_I b ↔ a = b := by cases a <;> cases b <;> decide
theorem bi_n (b : Bool) : narrow .boolean (.int (bi_I b)) = .int (bi_I b) := by cases b <;> rfl
theorem bi_v (b : Bool) : vp_nar .boolean (bi_I b) = bi_I b := by cases b <;> rfl
theorem bi_fit (b : Bool) : fits .boolean (.int (bi_I b)) = true := by cases b <;> rfl
theorem bi_valY : ∀ w, w < 64 → ∀ v, v < 6 → ((nI w >>> (nI v &&& 31)) &&& 1) = bi_I (Nat.testBit w v) := by decide +kernel
theorem bi_valX : ∀ w, w < 64 → ∀ v, v < 6 → (((nI w).toUInt32 >>> ((nI v).toUInt32 &&& Int32.toUInt32 31)).toInt32 &&& 1) = bi_I (Nat.testBit w v) := by decide +kernel
theorem bi_part : ∀ a, a < 64 → ∀ c, c < 64 → decide (nI a &&& (nI c ^^^ (-1)) = 0) = decide (a &&& c = a) := by decide +kernel
theorem bi_fv : ∀ f, f < 64 → ∀ v, v < 6 → nI f &&& (((1 : Int32) <<< (nI v &&& 31)) ^^^ (-1)) = nI (pq_fv f v) ∧ pq_fv f v < 64 := by decide +kernel
theorem bi_xor (w : Nat) {v : Nat} (hv : v < 7) : nI w ^^^ ((1 : Int32) <<< (nI v &&& 31)) = nI (w ^^^ 2 ^ v) := by rw [bb_step v hv, nx_xor]
theorem bi_64 (b w : Nat) : (64 : Int32) * nI b + nI w = nI (64 * b + w) := by
  rw [← nI_add, ← pk_mul]; rfl
theorem bi_top : ∀ h, h < 8 → ((nI (h + 1) - 1) &&& 7) = nI h ∧ (nI h &&& 7) = nI h := by decide +kernel
theorem bi_und : ∀ h, h < 7 → ((nI (h + 2) - 2) &&& 7) = nI h := by decide +kernel
theorem bi_2 {b : Int32} (h : nI 3 ≤ b) : ¬ b ≤ 2 := by
  intro z
  rw [Int32.le_iff_toInt_le] at h z
  have e1 : (nI 3).toInt = 3 := by decide
  have e2 : (2 : Int32).toInt = 2 := by decide
  omega
theorem bi_j2 {j : Nat} (h : j < 3) : nI j ≤ 2 := nI_le (b := 2) (by omega) (by decide)
/-! update -/
def pu_nr (F : Nat → Bool) (W u w : Nat) : Bool := pm_ex (fun x => F x && (decide (x ^^^ w ≠ u ^^^ w) && decide ((x ^^^ w) &&& (u ^^^ w) = x ^^^ w))) W
theorem pu_up (F B : Nat → Bool) (W u : Nat) : pm_ex (fun w => B w && (F u && !pu_nr F W u w)) W = (F u && pm_ex (fun w => B w && !pu_nr F W u w) W) := by
  cases F u
  · rw [Bool.false_and]
    exact (pm_ex_f _ _).mpr (fun i _ => by rw [Bool.false_and, Bool.and_false])
  · rw [Bool.true_and]
    exact pm_ex_c (fun i _ => by rw [Bool.true_and])
/-! defined -/
theorem pu_agree (x w s : Nat) : (x ^^^ w) &&& s = 0 ↔ x &&& s = w &&& s := by
  rw [Nat.and_xor_distrib_right, pm_x0]
theorem pu_def (B V : Nat → Bool) (W s : Nat) : pm_ex (fun w => (B w && V w) && pm_ex (fun x => (B x && !V x) && decide (x &&& s = w &&& s)) W) W = pm_ex (fun u => pm_ex (fun w => ((B u && B w) && decide (u &&& s = w &&& s)) && (V u != V w)) W) W := by
  apply pm_beq
  rw [pm_ex_t, pm_ex_t]
  constructor
  · rintro ⟨w, hw, h⟩
    rw [Bool.and_eq_true, Bool.and_eq_true, pm_ex_t] at h
    obtain ⟨⟨h1, h2⟩, x, hx, h3⟩ := h
    rw [Bool.and_eq_true, Bool.and_eq_true, decide_eq_true_eq] at h3
    obtain ⟨⟨h4, h5⟩, h6⟩ := h3
    refine ⟨w, hw, (pm_ex_t _ _).mpr ⟨x, hx, ?_⟩⟩
    rw [Bool.not_eq_true'] at h5
    rw [h1, h4, h2, h5, decide_eq_true h6.symm]; rfl
  · rintro ⟨u, hu, h⟩
    rw [pm_ex_t] at h
    obtain ⟨w, hw, h⟩ := h
    rw [Bool.and_eq_true, Bool.and_eq_true, Bool.and_eq_true, decide_eq_true_eq] at h
    obtain ⟨⟨⟨h1, h2⟩, h3⟩, h4⟩ := h
    cases h5 : V u
    · have h6 : V w = true := by
        rw [h5] at h4
        cases h7 : V w
        · rw [h7] at h4; exact absurd h4 (by decide)
        · rfl
      refine ⟨w, hw, ?_⟩
      rw [Bool.and_eq_true, pm_ex_t]
      refine ⟨by rw [h2, h6]; rfl, u, hu, ?_⟩
      rw [h1, h5, decide_eq_true h3]; rfl
    · have h6 : V w = false := by
        rw [h5] at h4
        cases h7 : V w
        · rfl
        · rw [h7] at h4; exact absurd h4 (by decide)
      refine ⟨u, hu, ?_⟩
      rw [Bool.and_eq_true, pm_ex_t]
      refine ⟨by rw [h1, h5]; rfl, w, hw, ?_⟩
      rw [h2, h6, decide_eq_true h3.symm]; rfl
/-! distance between two beliefs -/
theorem pu_dist {n : Nat} {A B : Nat → Bool} (hA : ¬ ∀ w, w < 2 ^ n → A w = false) (hB : ¬ ∀ w, w < 2 ^ n → B w = false) : pm_mn B (pm_ds n A) n (2 ^ n) = pm_mn B (pm_ds n A) (n + 1) (2 ^ n) := by
  have hex : ∀ S : Nat → Bool, (¬ ∀ w, w < 2 ^ n → S w = false) → ∃ w, w < 2 ^ n ∧ S w = true := by
    intro S h
    cases e : pm_ex S (2 ^ n)
    · exact absurd ((pm_ex_f S (2 ^ n)).mp e) h
    · exact (pm_ex_t S (2 ^ n)).mp e
  obtain ⟨a, ha, hA2⟩ := hex A hA
  obtain ⟨b, hb, hB2⟩ := hex B hB
  have hd : ∀ w, pm_ds n A w ≤ n := fun w => pm_ds_n ha hA2
  have h1 := pm_mn_le B (pm_ds n A) (n + 1) (2 ^ n) b hb hB2
  have h2 := hd b
  apply Nat.le_antisymm
  · rcases pm_mn_at B (pm_ds n A) (n + 1) (2 ^ n) with e | ⟨i, hi, h3, h4⟩
    · omega
    · rw [h4]; exact pm_mn_le _ _ _ _ i hi h3
  · exact pm_mn_ge _ _ (by omega) (fun i hi h3 => pm_mn_le _ _ _ _ i hi h3)
theorem bi_part' {a c : Nat} (ha : a < 64) (hc : c < 64) : nI a &&& (nI c ^^^ (-1)) = 0 ↔ a &&& c = a := decide_eq_decide.mp (bi_part a ha c hc)
/-! loops: the state at i is a function of i -/
theorem xl_up (W : Nat → Nat → Prop) (e : Nat) (hx : ∀ m, W (m + 1) e) (hs : ∀ m i, i < e → W m (i + 1) → W (m + 1) i) : ∃ m, W m 0 := by
  have key : ∀ d i, i + d = e → W (d + 1) i := by
    intro d
    induction d with
    | zero =>
      intro i hi
      have e2 : i = e := by omega
      rw [e2]; exact hx 0
    | succ d ih => intro i hi; exact hs (d + 1) i (by omega) (ih (i + 1) (by omega))
  exact ⟨e + 1, key e 0 (by omega)⟩
theorem xl_find (P : Nat → Bool) (W : Nat → Nat → Prop) (e : Nat) (hx : pm_ex P e = false → ∀ m, W (m + 1) e) (hs : ∀ m i, i < e → (P i = false → W m (i + 1)) → (P i = true → pm_ex P e = true) → W (m + 1) i) : ∃ m, W m 0 := by
  have key : ∀ d i, i + d = e → pm_ex P i = false → W (d + 1) i := by
    intro d
    induction d with
    | zero =>
      intro i hi h
      have e2 : i = e := by omega
      rw [e2] at h ⊢; exact hx h 0
    | succ d ih =>
      intro i hi h
      exact hs (d + 1) i (by omega) (fun hp => ih (i + 1) (by omega) (by show (pm_ex P i || P i) = false; rw [h, hp]; rfl)) (fun hp => (pm_ex_t P e).mpr ⟨i, by omega, hp⟩)
  exact ⟨e + 1, key e 0 (by omega) rfl⟩
/-! sets built world by world -/
def bs_S (P : Nat → Bool) (i : Nat) : Nat → Bool := fun u => decide (u < i) && P u
theorem bs_0 (P : Nat → Bool) (m : Nat) : bb_L (bs_S P 0) m = 0 := (bb_Lc (T := fun _ => false) (fun i _ => by unfold bs_S; simp)).trans (bb_L0 m)
theorem bs_e (P : Nat → Bool) (m : Nat) : bb_L (bs_S P m) m = bb_L P m := bb_Lc (fun i hi => by unfold bs_S; rw [decide_eq_true hi, Bool.true_and])
theorem bs_f {P : Nat → Bool} {i : Nat} (h : P i = false) (m : Nat) : bb_L (bs_S P (i + 1)) m = bb_L (bs_S P i) m := bb_Lc (fun j _ => by
  unfold bs_S
  rw [bb_lts]
  by_cases e : i = j
  · subst e; rw [h, Bool.and_false, Bool.and_false]
  · rw [decide_eq_false e, Bool.or_false])
theorem bs_t {P : Nat → Bool} {i m : Nat} (h : P i = true) (hm : m ≤ 64) (hi : i < m) : bb_L (bs_S P i) m ||| ((1 : Int64) <<< ((nI i).toInt64 &&& 63)) = bb_L (bs_S P (i + 1)) m := (bb_Lset hm hi).trans (bb_Lc (fun j _ => by
  show (bs_S P i j || decide (i = j)) = bs_S P (i + 1) j
  unfold bs_S
  rw [bb_lts]
  by_cases e : i = j
  · subst e; rw [h, decide_eq_true (rfl : i = i), Bool.or_true, Bool.or_true]; rfl
  · rw [decide_eq_false e, Bool.or_false, Bool.or_false]))
/-! an array filled cell by cell from o on -/
def fa_F (a : Nat → Int32) (o : Nat) (f : Nat → Int32) (i : Nat) : Nat → Int32 := fun j => if o ≤ j ∧ j < o + i then f (j - o) else a j
theorem fa_0 (a : Nat → Int32) (o : Nat) (f : Nat → Int32) : fa_F a o f 0 = a := funext (fun j => if_neg (by omega))
theorem fa_s (a : Nat → Int32) (o : Nat) (f : Nat → Int32) (i : Nat) : upd (fa_F a o f i) (o + i) (f i) = fa_F a o f (i + 1) := funext (fun j => by
  unfold upd fa_F
  by_cases e : j = o + i
  · subst e
    rw [if_pos rfl, if_pos (by omega)]
    exact congrArg f (by omega)
  · rw [if_neg e]
    by_cases h : o ≤ j ∧ j < o + i
    · rw [if_pos h, if_pos (by omega)]
    · rw [if_neg h, if_neg (by omega)])
theorem fa_in {a : Nat → Int32} {o : Nat} {f : Nat → Int32} {i w : Nat} (h : w < i) : fa_F a o f i (o + w) = f w := by
  unfold fa_F
  rw [if_pos (by omega)]
  exact congrArg f (by omega)
theorem fa_out {a : Nat → Int32} {o : Nat} {f : Nat → Int32} {i j : Nat} (h : j < o ∨ o + i ≤ j) : fa_F a o f i j = a j := if_neg (by omega)
end
section
/-! the class's own methods, each with a general post -/
theorem xw_W31 {n : Nat} (hn : n < 7) : 2 ^ n < 2 ^ 31 := Nat.lt_of_le_of_lt (bb_W n hn) (by decide)
section
variable {n : Nat} {e : Int64} {hI : Int32} {be fo on : Nat → Int64}
theorem xw_in {post : Int32 → Prop} {u : SX} (x : Int64) {w : Nat} (hw : w < 64) (h : post (bi_I (bb_g x w))) : wpX_isIn post u x (nI w) := by
  obtain ⟨a, b, c, d, f, g, i⟩ := u
  cases hb : bb_g x w
  · rw [hb] at h; exact br_t ((bb_in x hw).mpr hb) h
  · rw [hb] at h; exact br_f (fun z => by rw [(bb_in x hw).mp z] at hb; exact absurd hb (by decide)) h
theorem xw_inL {post : Int32 → Prop} {u : SX} {S : Nat → Bool} {w : Nat} (hn : n < 7) (hw : w < 2 ^ n) (h : post (bi_I (S w))) : wpX_isIn post u (bb_L S (2 ^ n)) (nI w) := by
  have hW := bb_W n hn
  refine xw_in _ (by omega) ?_
  rw [bb_gL S _ hW w (by omega), decide_eq_true hw, Bool.true_and]
  exact h
theorem xw_size {post : Int32 → Prop} {S : Nat → Bool} (hn : n < 7) (h : post (nI (pm_cn S (2 ^ n)))) : wpX_sizeOf post (nI n, nI (2 ^ n), e, hI, be, fo, on) (bb_L S (2 ^ n)) :=
  xl_up (fun m i => wX_sizeOf_5 post (bb_L S (2 ^ n)) (nI n) (nI (2 ^ n)) e hI be fo on m (nI (pm_cn S i)) (nI i)) (2 ^ n)
    (fun m => br_t (nI_le (Nat.le_refl _) (xw_W31 hn)) h)
    (fun m i hi ih => br_f (nI_ge hi (xw_W31 hn)) (xw_inL hn hi (by
      cases hS : S i
      · refine br_t rfl (nm_r (nI_1 i) ?_)
        have e1 : pm_cn S (i + 1) = pm_cn S i := if_neg (by rw [hS]; decide)
        rw [e1] at ih; exact ih
      · refine br_f (by decide) (nm_r (nI_1 _) (nm_r (nI_1 i) ?_))
        have e1 : pm_cn S (i + 1) = pm_cn S i + 1 := if_pos hS
        rw [e1] at ih; exact ih)))
theorem xw_become {post : Int32 → SX → Prop} {S : Nat → Bool} {b : Nat} (hn : n < 7) (hb : b < 3) (h : post (nI (pm_cn S (2 ^ n))) (nI n, nI (2 ^ n), e, hI, vp_updL be b (bb_L S (2 ^ n)), fo, on)) : wpX_become post (nI n, nI (2 ^ n), e, hI, be, fo, on) (nI b) (bb_L S (2 ^ n)) :=
  ⟨vp_in_nI hb (by decide), nm_r (congrArg (fun k => vp_updL be k (bb_L S (2 ^ n))) (nI_clamp (show b < 2 ^ 31 by omega))) (xw_size hn h)⟩
theorem xw_turn {post : Int64 → Prop} {S : Nat → Bool} {v : Nat} (hn : n < 7) (hon : ∀ v, v < n → on v = bb_L (fun w => Nat.testBit w v) (2 ^ n)) (hv : v < n) (h : post (bb_L (fun w => S (w ^^^ 2 ^ v)) (2 ^ n))) : wpX_turnedIn post (nI n, nI (2 ^ n), e, hI, be, fo, on) (nI v) (bb_L S (2 ^ n)) :=
  nm_r (bb_step v (by omega)) ⟨vp_in_nI (by omega) (by decide), nm_r ((congrArg on (nI_clamp (show v < 2 ^ 31 by omega))).trans (hon v hv)) (Eq.mpr (congrArg post (bb_turn hn hv)) h)⟩
theorem xw_wide {post : Int64 → Prop} {S : Nat → Bool} (hn : n < 7) (hon : ∀ v, v < n → on v = bb_L (fun w => Nat.testBit w v) (2 ^ n)) (h : post (bb_L (pm_wd S n) (2 ^ n))) : wpX_widened post (nI n, nI (2 ^ n), e, hI, be, fo, on) (bb_L S (2 ^ n)) :=
  xl_up (fun m i => wX_widened_5 post (bb_L S (2 ^ n)) (nI n) (nI (2 ^ n)) e hI be fo on m (bb_L (pm_wd S i) (2 ^ n)) (nI i)) n
    (fun m => br_t (nI_le (Nat.le_refl _) (by omega)) h)
    (fun m i hi ih => br_f (nI_ge hi (by omega)) (xw_turn hn hon hi (nm_r (bb_Lor (bb_W n hn)) (nm_r (nI_1 i) ih))))
theorem xw_dist {post : Int32 → Prop} {S : Nat → Bool} {u : Nat} (hn : n < 7) (hon : ∀ v, v < n → on v = bb_L (fun w => Nat.testBit w v) (2 ^ n)) (hu : u < 2 ^ n) (h : post (nI (pm_ds n S u))) : wpX_distanceFrom post (nI n, nI (2 ^ n), e, hI, be, fo, on) (bb_L S (2 ^ n)) (nI u) := by
  have hW := bb_W n hn
  refine nm_r (e' := bb_L (pm_wk n u 0) (2 ^ n)) ?_ ?_
  · rw [bb_L1 hW hu]; exact bb_Lc (fun i hi => (pm_wk0 hn hu hi).symm)
  · have key : ∀ d k, k + d = n + 1 → k ≤ pm_ds n S u → wX_distanceFrom_8 post (bb_L S (2 ^ n)) (nI n) (nI (2 ^ n)) e hI be fo on (d + 1) (bb_L (pm_wk n u k) (2 ^ n)) (nI k) := by
      intro d
      induction d with
      | zero =>
        intro k hk hd
        have e1 := pm_ds_z n S u
        have e2 : pm_ds n S u = n + 1 := by omega
        have e3 : k = n + 1 := by omega
        rw [e3]
        rw [e2, ← nI_1] at h
        exact br_t (nI_lt (by omega) (by omega)) h
      | succ d ih =>
        intro k hk hd
        refine br_f (nI_nlt (by omega) (by omega)) ?_
        have eL : bb_L (pm_wk n u k) (2 ^ n) &&& bb_L S (2 ^ n) = bb_L (fun w => pm_wk n u k w && S w) (2 ^ n) := bb_Land hW
        by_cases hz : ∀ w, w < 2 ^ n → (pm_wk n u k w && S w) = false
        · refine br_t (eL.trans ((bb_Lz hW).mpr hz)) (xw_wide hn hon (nm_r (nI_1 k) ?_))
          have e4 : bb_L (pm_wd (pm_wk n u k) n) (2 ^ n) = bb_L (pm_wk n u (k + 1)) (2 ^ n) := bb_Lc (fun i hi => pm_wd_wk hn hu hi)
          rw [e4]
          refine ih (k + 1) (by omega) (pm_ds_ge (by omega) (fun w hw hS => ?_))
          have h1 := hz w hw
          rw [hS, Bool.and_true] at h1
          have h2 := of_decide_eq_false h1
          omega
        · refine br_f (fun z => hz ((bb_Lz hW).mp (eL.symm.trans z))) ?_
          have e5 : pm_ds n S u = k := by
            cases hc : pm_ex (fun w => pm_wk n u k w && S w) (2 ^ n)
            · exact absurd ((pm_ex_f _ _).mp hc) hz
            · obtain ⟨w, hw, h3⟩ := (pm_ex_t _ _).mp hc
              have h3' : (pm_wk n u k w && S w) = true := h3
              rw [Bool.and_eq_true] at h3'
              have h4 : pm_pc n (u ^^^ w) ≤ k := of_decide_eq_true h3'.1
              have h5 := pm_ds_le (u := u) hw h3'.2
              omega
          rw [e5] at h; exact h
    exact ⟨n + 2, key (n + 1) 0 (by omega) (Nat.zero_le _)⟩
theorem xw_near {post : Int64 → Prop} {A B C : Nat → Bool} (hn : n < 7) (hon : ∀ v, v < n → on v = bb_L (fun w => Nat.testBit w v) (2 ^ n)) (h : post (bb_L (pm_nr C (fun w => pm_ds n A w + pm_ds n B w) (2 * (n + 1)) (2 ^ n)) (2 ^ n))) : wpX_nearestToBoth post (nI n, nI (2 ^ n), e, hI, be, fo, on) (bb_L A (2 ^ n)) (bb_L B (2 ^ n)) (bb_L C (2 ^ n)) := by
  have hW := bb_W n hn
  have hD : ∀ w, pm_ds n A w + pm_ds n B w ≤ 2 * (n + 1) := by
    intro w
    have h1 := pm_ds_z n A w
    have h2 := pm_ds_z n B w
    omega
  refine nm_r (e' := nI (2 * (n + 1))) (by rw [nI_1]; exact pk_mul 2 (n + 1)) ?_
  have key := xl_up (fun m i => wX_nearestToBoth_16 post (bb_L A (2 ^ n)) (bb_L B (2 ^ n)) (bb_L C (2 ^ n)) (nI n) (nI (2 ^ n)) e hI be fo on m (bb_L (pm_nr C (fun w => pm_ds n A w + pm_ds n B w) (2 * (n + 1)) i) (2 ^ n)) (nI (pm_mn C (fun w => pm_ds n A w + pm_ds n B w) (2 * (n + 1)) i)) (nI i)) (2 ^ n)
    (fun m => br_t (nI_le (Nat.le_refl _) (xw_W31 hn)) h)
    (fun m i hi ih => by
      refine br_f (nI_ge hi (xw_W31 hn)) (xw_inL hn hi ?_)
      have ih' : wX_nearestToBoth_16 post (bb_L A (2 ^ n)) (bb_L B (2 ^ n)) (bb_L C (2 ^ n)) (nI n) (nI (2 ^ n)) e hI be fo on m (bb_L (pm_nr C (fun w => pm_ds n A w + pm_ds n B w) (2 * (n + 1)) (i + 1)) (2 ^ n)) (nI (pm_mn C (fun w => pm_ds n A w + pm_ds n B w) (2 * (n + 1)) (i + 1))) (nI (i + 1)) := ih
      clear ih
      have hDi := hD i
      have hmz := pm_mn_z C (fun w => pm_ds n A w + pm_ds n B w) (2 * (n + 1)) i
      cases hC : C i
      · refine br_t rfl (nm_r (nI_1 i) ?_)
        rw [bb_Lc (fun w _ => pm_nr_skip (Or.inl hC) w), pm_mn_s, if_neg (by rw [hC]; decide)] at ih'
        exact ih'
      · refine br_f (by decide) (xw_dist hn hon hi (xw_dist hn hon hi (nm_r (nI_add _ _) ?_)))
        rcases Nat.lt_trichotomy (pm_ds n A i + pm_ds n B i) (pm_mn C (fun w => pm_ds n A w + pm_ds n B w) (2 * (n + 1)) i) with hlt | heq | hgt
        · rw [bb_Lc (fun w _ => pm_nr_lt hC hlt w), pm_mn_s, if_pos hC, if_pos hlt] at ih'
          exact br_f (nI_ge hlt (by omega)) (br_t rfl (nm_r ((Int64.zero_or).trans (bb_L1 hW hi)) (nm_r (nI_1 i) ih')))
        · rw [bb_Lc (fun w _ => pm_nr_eq hC heq w), pm_mn_s, if_pos hC, if_neg (by omega)] at ih'
          exact br_t (nI_le (by omega) (by omega)) (br_t (congrArg nI heq) (nm_r (bb_Lset hW hi) (nm_r (nI_1 i) ih')))
        · rw [bb_Lc (fun w _ => pm_nr_skip (Or.inr hgt) w), pm_mn_s, if_pos hC, if_neg (by omega)] at ih'
          exact br_t (nI_le (by omega) (by omega)) (br_f (fun z => by have z2 := (nI_eq (by omega) (by omega)).mp z; omega) (nm_r (nI_1 i) ih')))
  obtain ⟨m, hm⟩ := key
  refine ⟨m, ?_⟩
  have hm' : wX_nearestToBoth_16 post (bb_L A (2 ^ n)) (bb_L B (2 ^ n)) (bb_L C (2 ^ n)) (nI n) (nI (2 ^ n)) e hI be fo on m (bb_L (pm_nr C (fun w => pm_ds n A w + pm_ds n B w) (2 * (n + 1)) 0) (2 ^ n)) (nI (2 * (n + 1))) (nI 0) := hm
  have e0 : bb_L (pm_nr C (fun w => pm_ds n A w + pm_ds n B w) (2 * (n + 1)) 0) (2 ^ n) = 0 := (bb_Lc (T := fun _ => false) (fun w _ => by unfold pm_nr; simp)).trans (bb_L0 _)
  rw [e0] at hm'
  exact hm'
end
end
section
section
variable {n : Nat} {e : Int64} {hI : Int32} {be fo on : Nat → Int64}
theorem xv_ilc {post : Int32 → Prop} {F : Nat → Bool} {w u : Nat} (hn : n < 7) (hw : w < 2 ^ n) (hu : u < 2 ^ n) (h : post (bi_I (!pu_nr F (2 ^ n) u w))) : wpX_isLeastChange post (nI n, nI (2 ^ n), e, hI, be, fo, on) (nI w) (nI u) (bb_L F (2 ^ n)) := by
  have hW := bb_W n hn
  have hwu := pm_xlt hw hu
  refine nm_r (nx_xor w u) (xl_find (fun x => F x && (decide (x ^^^ w ≠ u ^^^ w) && decide ((x ^^^ w) &&& (u ^^^ w) = x ^^^ w))) (fun m i => wX_isLeastChange_8 post (nI w) (bb_L F (2 ^ n)) (nI (w ^^^ u)) (nI n) (nI (2 ^ n)) e hI be fo on m (nI i)) (2 ^ n) ?_ ?_)
  · intro hf m
    have hf' : pu_nr F (2 ^ n) u w = false := hf
    rw [hf'] at h
    exact br_t (nI_le (Nat.le_refl _) (xw_W31 hn)) h
  · intro m i hi k1 k2
    have k1' : (F i && (decide (i ^^^ w ≠ u ^^^ w) && decide ((i ^^^ w) &&& (u ^^^ w) = i ^^^ w))) = false → wX_isLeastChange_8 post (nI w) (bb_L F (2 ^ n)) (nI (w ^^^ u)) (nI n) (nI (2 ^ n)) e hI be fo on m (nI (i + 1)) := k1
    have k2' : (F i && (decide (i ^^^ w ≠ u ^^^ w) && decide ((i ^^^ w) &&& (u ^^^ w) = i ^^^ w))) = true → pu_nr F (2 ^ n) u w = true := k2
    clear k1 k2
    rw [Nat.xor_comm i w, Nat.xor_comm u w] at k1' k2'
    have hwi := pm_xlt hw hi
    refine br_f (nI_ge hi (xw_W31 hn)) (nm_r (nx_xor w i) ?_)
    by_cases h1 : w ^^^ i = w ^^^ u
    · refine br_t (congrArg nI h1) (show wX_isLeastChange_45 _ _ _ _ _ _ _ _ _ _ _ _ _ _ from br_t rfl (nm_r (nI_1 i) (k1' ?_)))
      rw [decide_eq_false (fun z => z h1), Bool.false_and, Bool.and_false]
    · refine br_f (fun z => h1 ((nI_eq (by omega) (by omega)).mp z)) ?_
      by_cases h2 : (w ^^^ i) &&& (w ^^^ u) = w ^^^ i
      · refine br_t ((bi_part' (by omega) (by omega)).mpr h2) (br_f (by decide) (xw_inL hn hi ?_))
        rw [decide_eq_true h1, decide_eq_true h2] at k1' k2'
        cases hF : F i
        · exact br_t rfl (nm_r (nI_1 i) (k1' (by rw [hF]; rfl)))
        · refine br_f (by decide) ?_
          rw [k2' (by rw [hF]; rfl)] at h
          exact h
      · refine br_f (fun z => h2 ((bi_part' (by omega) (by omega)).mp z)) (show wX_isLeastChange_45 _ _ _ _ _ _ _ _ _ _ _ _ _ _ from br_t rfl (nm_r (nI_1 i) (k1' ?_)))
        rw [decide_eq_false h2, Bool.and_false, Bool.and_false]
theorem xv_lco {post : Int64 → Prop} {F : Nat → Bool} {w : Nat} (hn : n < 7) (hw : w < 2 ^ n) (h : post (bb_L (fun u => F u && !pu_nr F (2 ^ n) u w) (2 ^ n))) : wpX_leastChangesOf post (nI n, nI (2 ^ n), e, hI, be, fo, on) (nI w) (bb_L F (2 ^ n)) := by
  have hW := bb_W n hn
  have key := xl_up (fun m i => wX_leastChangesOf_6 post (nI w) (bb_L F (2 ^ n)) (nI n) (nI (2 ^ n)) e hI be fo on m (bb_L (bs_S (fun u => F u && !pu_nr F (2 ^ n) u w) i) (2 ^ n)) (nI i)) (2 ^ n)
    (fun m => br_t (nI_le (Nat.le_refl _) (xw_W31 hn)) (by rw [bs_e]; exact h))
    (fun m i hi ih => by
      refine br_f (nI_ge hi (xw_W31 hn)) (xw_inL hn hi ?_)
      have ih' : wX_leastChangesOf_6 post (nI w) (bb_L F (2 ^ n)) (nI n) (nI (2 ^ n)) e hI be fo on m (bb_L (bs_S (fun u => F u && !pu_nr F (2 ^ n) u w) (i + 1)) (2 ^ n)) (nI (i + 1)) := ih
      clear ih
      cases hF : F i
      · rw [bs_f (show (F i && !pu_nr F (2 ^ n) i w) = false by rw [hF]; rfl)] at ih'
        exact br_t rfl (nm_r (nI_1 i) ih')
      · refine br_f (by decide) (xv_ilc hn hw hi ?_)
        cases hp : pu_nr F (2 ^ n) i w
        · exact br_f (by decide) (nm_r (bs_t (show (F i && !pu_nr F (2 ^ n) i w) = true by rw [hF, hp]; rfl) hW hi) (nm_r (nI_1 i) ih'))
        · rw [bs_f (show (F i && !pu_nr F (2 ^ n) i w) = false by rw [hp]; simp)] at ih'
          exact br_t rfl (nm_r (nI_1 i) ih'))
  obtain ⟨m, hm⟩ := key
  refine ⟨m, ?_⟩
  have hm' : wX_leastChangesOf_6 post (nI w) (bb_L F (2 ^ n)) (nI n) (nI (2 ^ n)) e hI be fo on m (bb_L (bs_S (fun u => F u && !pu_nr F (2 ^ n) u w) 0) (2 ^ n)) (nI 0) := hm
  rw [bs_0] at hm'
  exact hm'
theorem xv_agree {post : Int32 → Prop} {S : Nat → Bool} {w s : Nat} (hn : n < 7) (hw : w < 2 ^ n) (hs : s < 2 ^ n) (h : post (bi_I (pm_ex (fun x => S x && decide (x &&& s = w &&& s)) (2 ^ n)))) : wpX_hasAgreeing post (nI n, nI (2 ^ n), e, hI, be, fo, on) (bb_L S (2 ^ n)) (nI w) (nI s) := by
  have hW := bb_W n hn
  refine xl_find (fun x => S x && decide (x &&& s = w &&& s)) (fun m i => wX_hasAgreeing_3 post (bb_L S (2 ^ n)) (nI w) (nI s) (nI n) (nI (2 ^ n)) e hI be fo on m (nI i)) (2 ^ n) ?_ ?_
  · intro hf m
    rw [hf] at h
    exact br_t (nI_le (Nat.le_refl _) (xw_W31 hn)) h
  · intro m i hi k1 k2
    refine br_f (nI_ge hi (xw_W31 hn)) (xw_inL hn hi ?_)
    have k1' : (S i && decide (i &&& s = w &&& s)) = false → wX_hasAgreeing_3 post (bb_L S (2 ^ n)) (nI w) (nI s) (nI n) (nI (2 ^ n)) e hI be fo on m (nI (i + 1)) := k1
    have k2' : (S i && decide (i &&& s = w &&& s)) = true → pm_ex (fun x => S x && decide (x &&& s = w &&& s)) (2 ^ n) = true := k2
    clear k1 k2
    cases hS : S i
    · exact br_t rfl (nm_r (nI_1 i) (k1' (by rw [hS]; rfl)))
    · refine br_f (by decide) ?_
      have hx : (i ^^^ w) &&& s < 2 ^ n := Nat.lt_of_le_of_lt Nat.and_le_left (pm_xlt hi hw)
      have e1 : (nI i ^^^ nI w) &&& nI s = nI ((i ^^^ w) &&& s) := by rw [nx_xor, nx_and]
      by_cases ha : i &&& s = w &&& s
      · refine br_t (e1.trans (by rw [(pu_agree i w s).mpr ha]; rfl)) ?_
        rw [k2' (by rw [hS, decide_eq_true ha]; rfl)] at h
        exact h
      · refine br_f (fun z => ha ((pu_agree i w s).mp ?_)) (nm_r (nI_1 i) (k1' (by rw [decide_eq_false ha, Bool.and_false])))
        exact (nI_eq (by omega) (by omega)).mp ((e1.symm.trans z).trans nI_0.symm)
theorem xv_bit {o v : Nat} (ho : o < 64) (hv : v < 6) : (((nI o).toUInt32 >>> ((nI v).toUInt32 &&& Int32.toUInt32 31)).toInt32 &&& 1) = 0 ↔ Nat.testBit o v = false := by
  rw [bi_valX o ho v hv, bi_0]
theorem xv_inside {post : Int64 → Prop} {B : Nat → Bool} {o : Nat} (hn : n < 7) (hon : ∀ v, v < n → on v = bb_L (fun w => Nat.testBit w v) (2 ^ n)) (ho : o < 2 ^ n) (h : post (bb_L (pq_in o B n) (2 ^ n))) : wpX_insideWhenOpen post (nI n, nI (2 ^ n), e, hI, be, fo, on) (nI o) (bb_L B (2 ^ n)) := by
  have hW := bb_W n hn
  refine xl_up (fun m i => wX_insideWhenOpen_6 post (nI o) (nI n) (nI (2 ^ n)) e hI be fo on m (bb_L (pq_in o B i) (2 ^ n)) (nI i)) n (fun m => br_t (nI_le (Nat.le_refl _) (by omega)) h) (fun m i hi ih => ?_)
  refine br_f (nI_ge hi (by omega)) ?_
  have ih' : wX_insideWhenOpen_6 post (nI o) (nI n) (nI (2 ^ n)) e hI be fo on m (bb_L (pq_in o B (i + 1)) (2 ^ n)) (nI (i + 1)) := ih
  clear ih
  cases hb : Nat.testBit o i
  · have e1 : pq_in o B (i + 1) = pq_in o B i := funext (fun w => if_neg (by rw [hb]; decide))
    rw [e1] at ih'
    exact br_t ((xv_bit (by omega) (by omega)).mpr hb) (nm_r (nI_1 i) ih')
  · have e1 : pq_in o B (i + 1) = fun w => pq_in o B i w && pq_in o B i (w ^^^ 2 ^ i) := funext (fun w => if_pos hb)
    rw [e1] at ih'
    exact br_f (fun z => absurd ((xv_bit (by omega) (by omega)).mp z) (by rw [hb]; decide)) (xw_turn hn hon hi (nm_r (bb_Land hW) (nm_r (nI_1 i) ih')))
theorem xv_pop {post : Int32 → Prop} {B : Nat → Bool} {o : Nat} (hn : n < 7) (hon : ∀ v, v < n → on v = bb_L (fun w => Nat.testBit w v) (2 ^ n)) (ho : o < 2 ^ n) (h : post (nI (pm_cn (pq_px n o B n) (2 ^ n)))) : wpX_primesOpenIn post (nI n, nI (2 ^ n), e, hI, be, fo, on) (nI o) (bb_L B (2 ^ n)) := by
  have hW := bb_W n hn
  refine xv_inside hn hon ho ?_
  refine xl_up (fun m i => wX_primesOpenIn_15 post (nI o) (bb_L (pq_in o B n) (2 ^ n)) (nI n) (nI (2 ^ n)) e hI be fo on m (bb_L (pq_px n o B i) (2 ^ n)) (nI i)) n (fun m => br_t (nI_le (Nat.le_refl _) (by omega)) (xw_size hn h)) (fun m i hi ih => ?_)
  refine br_f (nI_ge hi (by omega)) ?_
  have ih' : wX_primesOpenIn_15 post (nI o) (bb_L (pq_in o B n) (2 ^ n)) (nI n) (nI (2 ^ n)) e hI be fo on m (bb_L (pq_px n o B (i + 1)) (2 ^ n)) (nI (i + 1)) := ih
  clear ih
  cases hb : Nat.testBit o i
  · have e1 : pq_px n o B (i + 1) = fun w => pq_px n o B i w && !pq_in o B n (w ^^^ 2 ^ i) := funext (fun w => if_neg (by rw [hb]; decide))
    rw [e1] at ih'
    exact br_t ((xv_bit (by omega) (by omega)).mpr hb) (xw_turn hn hon hi (nm_r (bb_Ldiff hW) (nm_r (nI_1 i) ih')))
  · have e1 : pq_px n o B (i + 1) = fun w => pq_px n o B i w && !Nat.testBit w i := funext (fun w => if_pos hb)
    rw [e1] at ih'
    refine br_f (fun z => absurd ((xv_bit (by omega) (by omega)).mp z) (by rw [hb]; decide)) ⟨vp_in_nI (by omega) (by decide), nm_r ?_ (nm_r (nI_1 i) ih')⟩
    rw [nI_clamp (by omega), hon i hi]
    exact bb_Ldiff hW
end
end
section
/-! the reference's own methods, each with a general post -/
section
variable {n h : Nat} {hI : Int32} {he fm re fa : Nat → Int32}
theorem yw_ix {b w N : Nat} (hN : 64 * b + w < N) (hN2 : N < 2 ^ 31) : vp_in ((64 * nI b) + nI w) N ∧ ((64 * nI b) + nI w).toNatClampNeg = 64 * b + w := by
  rw [bi_64]
  exact ⟨vp_in_nI hN hN2, nI_clamp (by omega)⟩
theorem yw_in {post : Int32 → Prop} {b w : Nat} {c : Bool} (hb : b < 3) (hw : w < 64) (hc : he (64 * b + w) = bi_I c) (hp : post (bi_I c)) : wpY_in post (nI n, nI (2 ^ n), hI, he, fm, re, fa) (nI b) (nI w) := by
  have h1 := yw_ix (b := b) (w := w) (N := 192) (by omega) (by decide)
  refine ⟨h1.1, ?_⟩
  rw [h1.2, hc]
  exact ⟨bi_n c, hp⟩
theorem yw_top {post : Int32 → Prop} {w : Nat} {c : Bool} (hh : h < 8) (hw : w < 64) (hc : fm (64 * h + w) = bi_I c) (hp : post (bi_I c)) : wpY_top post (nI n, nI (2 ^ n), nI (h + 1), he, fm, re, fa) (nI w) := by
  have h1 := yw_ix (b := h) (w := w) (N := 512) (by omega) (by decide)
  unfold wpY_top
  dsimp only
  rw [(bi_top h hh).1, h1.2, hc]
  exact ⟨h1.1, bi_n c, hp⟩
theorem yw_val {post : Int32 → Prop} {u : SY} {w v : Nat} (hw : w < 64) (hv : v < 6) (hp : post (bi_I (Nat.testBit w v))) : wpY_valueOf post u (nI w) (nI v) := by
  obtain ⟨a, b, c, d, f, g, i⟩ := u
  exact Eq.mpr (congrArg post (bi_valY w hw v hv)) hp
theorem yw_apart {post : Int32 → Prop} {u w : Nat} (hn : n < 7) (hu : u < 2 ^ n) (hw : w < 2 ^ n) (hp : post (nI (pm_pc n (u ^^^ w)))) : wpY_apart post (nI n, nI (2 ^ n), hI, he, fm, re, fa) (nI u) (nI w) := by
  have hW := bb_W n hn
  refine xl_up (fun m i => wY_apart_5 post (nI u) (nI w) (nI n) (nI (2 ^ n)) hI he fm re fa m (nI (pm_cn (fun v => Nat.testBit (u ^^^ w) v) i)) (nI i)) n (fun m => br_t (nI_le (Nat.le_refl _) (by omega)) hp) (fun m i hi ih => ?_)
  refine br_f (nI_ge hi (by omega)) (yw_val (by omega) (by omega) (yw_val (by omega) (by omega) ?_))
  have ih' : wY_apart_5 post (nI u) (nI w) (nI n) (nI (2 ^ n)) hI he fm re fa m (nI (pm_cn (fun v => Nat.testBit (u ^^^ w) v) (i + 1))) (nI (i + 1)) := ih
  clear ih
  have et : Nat.testBit (u ^^^ w) i = (Nat.testBit u i ^^ Nat.testBit w i) := Nat.testBit_xor _ _ _
  by_cases hb : Nat.testBit u i = Nat.testBit w i
  · have e1 : pm_cn (fun v => Nat.testBit (u ^^^ w) v) (i + 1) = pm_cn (fun v => Nat.testBit (u ^^^ w) v) i := if_neg (by show ¬ Nat.testBit (u ^^^ w) i = true; rw [et, hb, Bool.xor_self]; decide)
    rw [e1] at ih'
    exact br_t ((bi_eq _ _).mpr hb) (nm_r (nI_1 i) ih')
  · have e1 : pm_cn (fun v => Nat.testBit (u ^^^ w) v) (i + 1) = pm_cn (fun v => Nat.testBit (u ^^^ w) v) i + 1 := if_pos (by
      show Nat.testBit (u ^^^ w) i = true
      rw [et]
      revert hb
      cases Nat.testBit u i <;> cases Nat.testBit w i <;> simp)
    rw [e1] at ih'
    exact br_f (fun z => hb ((bi_eq _ _).mp z)) (nm_r (nI_1 _) (nm_r (nI_1 i) ih'))
theorem yw_dist {post : Int32 → Prop} {S : Nat → Bool} {b u : Nat} (hn : n < 7) (hb : b < 3) (hu : u < 2 ^ n) (hS : ∀ w, w < 2 ^ n → he (64 * b + w) = bi_I (S w)) (hp : post (nI (pm_ds n S u))) : wpY_distanceFrom post (nI n, nI (2 ^ n), hI, he, fm, re, fa) (nI b) (nI u) := by
  have hW := bb_W n hn
  refine nm_r (nI_1 n) (xl_up (fun m i => wY_distanceFrom_10 post (nI b) (nI u) (nI n) (nI (2 ^ n)) hI he fm re fa m (nI (pm_mn S (fun w => pm_pc n (u ^^^ w)) (n + 1) i)) (nI i)) (2 ^ n) (fun m => br_t (nI_le (Nat.le_refl _) (xw_W31 hn)) hp) (fun m i hi ih => ?_))
  refine br_f (nI_ge hi (xw_W31 hn)) (yw_in hb (by omega) (hS i hi) ?_)
  have ih' : wY_distanceFrom_10 post (nI b) (nI u) (nI n) (nI (2 ^ n)) hI he fm re fa m (nI (pm_mn S (fun w => pm_pc n (u ^^^ w)) (n + 1) (i + 1))) (nI (i + 1)) := ih
  clear ih
  rw [pm_mn_s] at ih'
  have hz := pm_mn_z S (fun w => pm_pc n (u ^^^ w)) (n + 1) i
  have hpc := pm_pc_le n (u ^^^ i)
  cases hC : S i
  · rw [if_neg (by rw [hC]; decide)] at ih'
    exact br_t rfl (nm_r (nI_1 i) ih')
  · rw [if_pos hC] at ih'
    refine br_f (by decide) (yw_apart hn hu hi ?_)
    by_cases hlt : pm_pc n (u ^^^ i) < pm_mn S (fun w => pm_pc n (u ^^^ w)) (n + 1) i
    · rw [if_pos hlt] at ih'
      exact br_f (nI_ge hlt (by omega)) (nm_r (nI_1 i) ih')
    · rw [if_neg hlt] at ih'
      exact br_t (nI_le (by omega) (by omega)) (nm_r (nI_1 i) ih')
theorem yw_store {post : Int32 → SY → Prop} {R : Nat → Bool} {b : Nat} (hn : n < 7) (hb : b < 3) (hR : ∀ w, w < 2 ^ n → re w = bi_I (R w)) (hp : post (nI (pm_cn R (2 ^ n))) (nI n, nI (2 ^ n), hI, fa_F he (64 * b) (fun w => bi_I (R w)) (2 ^ n), fm, re, fa)) : wpY_store post (nI n, nI (2 ^ n), hI, he, fm, re, fa) (nI b) := by
  have hW := bb_W n hn
  have key := xl_up (fun m i => wY_store_4 post (nI b) (nI n) (nI (2 ^ n)) hI m (nI (pm_cn R i)) (nI i) (fa_F he (64 * b) (fun w => bi_I (R w)) i) fm re fa) (2 ^ n) (fun m => br_t (nI_le (Nat.le_refl _) (xw_W31 hn)) hp) (fun m i hi ih => by
    have ih' : wY_store_4 post (nI b) (nI n) (nI (2 ^ n)) hI m (nI (pm_cn R (i + 1))) (nI (i + 1)) (fa_F he (64 * b) (fun w => bi_I (R w)) (i + 1)) fm re fa := ih
    clear ih
    have h1 := yw_ix (b := b) (w := i) (N := 192) (by omega) (by decide)
    have h2 : (nI i).toNatClampNeg = i := nI_clamp (by omega)
    have h3 : vp_in (nI i) 64 := vp_in_nI (by omega) (by decide)
    refine br_f (nI_ge hi (xw_W31 hn)) (br_f (nI_ge (b := 64) (by omega) (by decide)) ⟨h3, h1.1, nm_r (e' := fa_F he (64 * b) (fun w => bi_I (R w)) (i + 1)) ?_ ⟨h3, ?_⟩⟩)
    · rw [h1.2, h2, hR i hi, bi_v]
      exact fa_s he (64 * b) (fun w => bi_I (R w)) i
    · rw [h2, hR i hi]
      cases hC : R i
      · have e1 : pm_cn R (i + 1) = pm_cn R i := if_neg (by rw [hC]; decide)
        rw [e1] at ih'
        exact br_t rfl (nm_r (nI_1 i) ih')
      · have e1 : pm_cn R (i + 1) = pm_cn R i + 1 := if_pos hC
        rw [e1] at ih'
        exact br_f (by decide) (nm_r (nI_1 _) (nm_r (nI_1 i) ih')))
  obtain ⟨m, hm⟩ := key
  refine ⟨m, ?_⟩
  have hm' : wY_store_4 post (nI b) (nI n) (nI (2 ^ n)) hI m (nI (pm_cn R 0)) (nI 0) (fa_F he (64 * b) (fun w => bi_I (R w)) 0) fm re fa := hm
  rw [fa_0] at hm'
  exact hm'
theorem yw_least {post : Int32 → Prop} {F : Nat → Bool} {D : Nat → Nat} {t : Bool} (hn : n < 7) (hh : h < 8) (hF : ∀ w, w < 2 ^ n → fm (64 * h + w) = bi_I (F w)) (hD : ∀ w, w < 2 ^ n → fa w = nI (D w)) (hD2 : ∀ w, w < 2 ^ n → D w < 1000) (hp : post (nI (pm_mn (fun w => F w == t) D 1000 (2 ^ n)))) : wpY_leastFar post (nI n, nI (2 ^ n), nI (h + 1), he, fm, re, fa) (bi_I t) := by
  have hW := bb_W n hn
  refine xl_up (fun m i => wY_leastFar_6 post (bi_I t) (nI n) (nI (2 ^ n)) (nI (h + 1)) he fm re fa m (nI (pm_mn (fun w => F w == t) D 1000 i)) (nI i)) (2 ^ n) (fun m => br_t (nI_le (Nat.le_refl _) (xw_W31 hn)) hp) (fun m i hi ih => ?_)
  refine br_f (nI_ge hi (xw_W31 hn)) (br_f (nI_ge (b := 64) (by omega) (by decide)) (yw_top hh (by omega) (hF i hi) ?_))
  have ih' : wY_leastFar_6 post (bi_I t) (nI n) (nI (2 ^ n)) (nI (h + 1)) he fm re fa m (nI (pm_mn (fun w => F w == t) D 1000 (i + 1))) (nI (i + 1)) := ih
  clear ih
  rw [pm_mn_s] at ih'
  have hz := pm_mn_z (fun w => F w == t) D 1000 i
  have hd := hD2 i hi
  have h2 : (nI i).toNatClampNeg = i := nI_clamp (by omega)
  have h3 : vp_in (nI i) 64 := vp_in_nI (by omega) (by decide)
  by_cases hC : F i = t
  · rw [if_pos (by rw [hC]; exact beq_self_eq_true t)] at ih'
    refine br_t ((bi_eq _ _).mpr hC) ⟨h3, ?_⟩
    rw [h2, hD i hi]
    by_cases hlt : D i < pm_mn (fun w => F w == t) D 1000 i
    · rw [if_pos hlt] at ih'
      exact br_f (nI_ge hlt (by omega)) ⟨h3, nm_r rfl (nm_r (nI_1 i) ih')⟩
    · rw [if_neg hlt] at ih'
      exact br_t (nI_le (by omega) (by omega)) (nm_r (nI_1 i) ih')
  · rw [if_neg (fun z => hC (eq_of_beq z))] at ih'
    exact br_f (fun z => hC ((bi_eq _ _).mp z)) (nm_r (nI_1 i) ih')
end
end
section
/-! the reference's calls that change something -/
theorem fa_keep {a : Nat → Int32} {o : Nat} {f : Nat → Int32} {i : Nat} (h : a (o + i) = f i) : fa_F a o f (i + 1) = fa_F a o f i := funext (fun j => by
  unfold fa_F
  by_cases e : j = o + i
  · subst e
    rw [if_pos (by omega), if_neg (by omega), h]
    exact congrArg f (by omega)
  · by_cases h2 : o ≤ j ∧ j < o + i
    · rw [if_pos h2, if_pos (by omega)]
    · rw [if_neg h2, if_neg (by omega)])
theorem yr_up {a : Nat → Int32} {R : Nat → Bool} {i : Nat} {c : Bool} (hc : R i = c) (hi : i < 64) : upd (fa_F a 0 (fun w => bi_I (R w)) i) (nI i).toNatClampNeg (vp_nar .boolean (bi_I c)) = fa_F a 0 (fun w => bi_I (R w)) (i + 1) := by
  rw [nI_clamp (by omega), bi_v, ← fa_s, hc, Nat.zero_add]
theorem yd_up {a : Nat → Int32} {D : Nat → Nat} {i : Nat} (hi : i < 64) : upd (fa_F a 0 (fun w => nI (D w)) i) (nI i).toNatClampNeg (nI (D i)) = fa_F a 0 (fun w => nI (D w)) (i + 1) := by
  rw [nI_clamp (by omega), ← fa_s, Nat.zero_add]
theorem yf_up {a : Nat → Int32} {R : Nat → Bool} {o i : Nat} {c : Bool} {x : Int32} (hx : x = nI (o + i)) (ho : o + i < 512) (hc : R i = c) : upd (fa_F a o (fun w => bi_I (R w)) i) x.toNatClampNeg (vp_nar .boolean (bi_I c)) = fa_F a o (fun w => bi_I (R w)) (i + 1) := by
  rw [hx, nI_clamp (by omega), bi_v, ← fa_s, hc]
theorem y0_in {f : Nat → Int32} {a : Nat → Int32} {m w : Nat} (h : w < m) : fa_F a 0 f m w = f w := by
  have e := fa_in (a := a) (o := 0) (f := f) h
  rw [Nat.zero_add] at e
  exact e
theorem yf_ix {h i : Nat} (hh : h < 8) : ((64 * (nI h &&& 7)) + nI i) = nI (64 * h + i) := by rw [(bi_top h hh).2, bi_64]
section
variable {n h : Nat} {hI : Int32} {he fm re fa : Nat → Int32}
theorem yp_atom {post : Int32 → SY → Prop} {v : Nat} (hn : n < 7) (hh : h < 8) (hv : v < n) (hp : post (nI (h + 1)) (nI n, nI (2 ^ n), nI (h + 1), he, fa_F fm (64 * h) (fun w => bi_I (Nat.testBit w v)) (2 ^ n), re, fa)) : ∃ m, wY_atom_24 post (nI v) (nI n) (nI (2 ^ n)) (nI h) m 0 he fm re fa := by
  have hW := bb_W n hn
  have key := xl_up (fun m i => wY_atom_24 post (nI v) (nI n) (nI (2 ^ n)) (nI h) m (nI i) he (fa_F fm (64 * h) (fun w => bi_I (Nat.testBit w v)) i) re fa) (2 ^ n) (fun m => br_t (nI_le (Nat.le_refl _) (xw_W31 hn)) (show wY_atom_76 _ _ _ _ _ _ _ _ from nm_r (nI_1 h) hp)) (fun m i hi ih => by
    refine br_f (nI_ge hi (xw_W31 hn)) (br_f (nI_ge (b := 64) (by omega) (by decide)) (yw_val (by omega) (by omega) ?_))
    have hin : vp_in ((64 * (nI h &&& 7)) + nI i) 512 := by rw [yf_ix hh]; exact vp_in_nI (by omega) (by decide)
    cases hc : Nat.testBit i v
    · exact br_f (by decide) ⟨hin, nm_r (yf_up (c := false) (yf_ix hh) (by omega) hc) (nm_r (nI_1 i) ih)⟩
    · exact br_t rfl ⟨hin, nm_r (yf_up (c := true) (yf_ix hh) (by omega) hc) (nm_r (nI_1 i) ih)⟩)
  obtain ⟨m, hm⟩ := key
  refine ⟨m, ?_⟩
  have hm' : wY_atom_24 post (nI v) (nI n) (nI (2 ^ n)) (nI h) m (nI 0) he (fa_F fm (64 * h) (fun w => bi_I (Nat.testBit w v)) 0) re fa := hm
  rw [fa_0] at hm'
  exact hm'
theorem yp_quote {post : Int32 → SY → Prop} {B : Nat → Bool} {b : Nat} (hn : n < 7) (hh : h < 8) (hb : b < 3) (hB : ∀ w, w < 2 ^ n → he (64 * b + w) = bi_I (B w)) (hp : post (nI (h + 1)) (nI n, nI (2 ^ n), nI (h + 1), he, fa_F fm (64 * h) (fun w => bi_I (B w)) (2 ^ n), re, fa)) : ∃ m, wY_quote_24 post (nI b) (nI n) (nI (2 ^ n)) (nI h) m 0 he fm re fa := by
  have hW := bb_W n hn
  have key := xl_up (fun m i => wY_quote_24 post (nI b) (nI n) (nI (2 ^ n)) (nI h) m (nI i) he (fa_F fm (64 * h) (fun w => bi_I (B w)) i) re fa) (2 ^ n) (fun m => br_t (nI_le (Nat.le_refl _) (xw_W31 hn)) (show wY_quote_67 _ _ _ _ _ _ _ _ from nm_r (nI_1 h) hp)) (fun m i hi ih => by
    refine br_f (nI_ge hi (xw_W31 hn)) (br_f (nI_ge (b := 64) (by omega) (by decide)) (yw_in hb (by omega) (hB i hi) ?_))
    have hin : vp_in ((64 * (nI h &&& 7)) + nI i) 512 := by rw [yf_ix hh]; exact vp_in_nI (by omega) (by decide)
    exact ⟨hin, nm_r (yf_up (c := B i) (yf_ix hh) (by omega) rfl) (nm_r (nI_1 i) ih)⟩)
  obtain ⟨m, hm⟩ := key
  refine ⟨m, ?_⟩
  have hm' : wY_quote_24 post (nI b) (nI n) (nI (2 ^ n)) (nI h) m (nI 0) he (fa_F fm (64 * h) (fun w => bi_I (B w)) 0) re fa := hm
  rw [fa_0] at hm'
  exact hm'
theorem yp_not {post : Int32 → SY → Prop} {F : Nat → Bool} (hn : n < 7) (hh : h < 8) (hF : ∀ w, w < 2 ^ n → fm (64 * h + w) = bi_I (F w)) (hp : post (nI (h + 1)) (nI n, nI (2 ^ n), nI (h + 1), he, fa_F fm (64 * h) (fun w => bi_I (!F w)) (2 ^ n), re, fa)) : ∃ m, wY_connect_49 post (nI (64 * h)) (nI n) (nI (2 ^ n)) (nI (h + 1)) m 0 he fm re fa := by
  have hW := bb_W n hn
  have key := xl_up (fun m i => wY_connect_49 post (nI (64 * h)) (nI n) (nI (2 ^ n)) (nI (h + 1)) m (nI i) he (fa_F fm (64 * h) (fun w => bi_I (!F w)) i) re fa) (2 ^ n) (fun m => br_t (nI_le (Nat.le_refl _) (xw_W31 hn)) hp) (fun m i hi ih => by
    have e1 : nI (64 * h) + nI i = nI (64 * h + i) := nI_add _ _
    have hin : vp_in (nI (64 * h) + nI i) 512 := by rw [e1]; exact vp_in_nI (by omega) (by decide)
    have hrd : fa_F fm (64 * h) (fun w => bi_I (!F w)) i (nI (64 * h) + nI i).toNatClampNeg = bi_I (F i) := by
      rw [e1, nI_clamp (by omega), fa_out (by omega), hF i hi]
    refine br_f (nI_ge hi (xw_W31 hn)) (br_f (nI_ge (b := 64) (by omega) (by decide)) ⟨hin, ?_⟩)
    rw [hrd]
    cases hc : F i
    · exact br_t rfl ⟨hin, nm_r (yf_up (c := true) e1 (by omega) (by rw [hc]; rfl)) (nm_r (nI_1 i) ih)⟩
    · exact br_f (by decide) ⟨hin, nm_r (yf_up (c := false) e1 (by omega) (by rw [hc]; rfl)) (nm_r (nI_1 i) ih)⟩)
  obtain ⟨m, hm⟩ := key
  refine ⟨m, ?_⟩
  have hm' : wY_connect_49 post (nI (64 * h)) (nI n) (nI (2 ^ n)) (nI (h + 1)) m (nI 0) he (fa_F fm (64 * h) (fun w => bi_I (!F w)) 0) re fa := hm
  rw [fa_0] at hm'
  exact hm'
def jn_j (k : Nat) (a b : Bool) : Bool := if k = 1 then a && b else if k = 2 then a || b else if k = 3 then a ^^ b else (!a || b)
theorem jn_y {post : Int32 → Prop} {u : SY} {k : Nat} {a b : Bool} (h1 : 1 ≤ k) (h4 : k ≤ 4) (hp : post (bi_I (jn_j k a b))) : wpY_joined post u (nI k) (bi_I a) (bi_I b) := by
  obtain ⟨q1, q2, q3, q4, q5, q6, q7⟩ := u
  have hk : k = 1 ∨ k = 2 ∨ k = 3 ∨ k = 4 := by omega
  rcases hk with rfl | rfl | rfl | rfl
  · refine br_t (by decide) ?_
    cases a
    · exact br_t rfl hp
    · refine br_f (by decide) ?_
      cases b
      · exact br_t rfl hp
      · exact br_f (by decide) hp
  · refine br_f (by decide) (br_t (by decide) ?_)
    cases a
    · refine br_t rfl ?_
      cases b
      · exact br_t rfl hp
      · exact br_f (by decide) hp
    · exact br_f (by decide) hp
  · refine br_f (by decide) (br_f (by decide) (br_t (by decide) ?_))
    cases a <;> cases b
    · exact br_t rfl hp
    · exact br_f (by decide) hp
    · exact br_f (by decide) hp
    · exact br_t rfl hp
  · refine br_f (by decide) (br_f (by decide) (br_f (by decide) ?_))
    cases a
    · exact br_t rfl hp
    · refine br_f (by decide) ?_
      cases b
      · exact br_t rfl hp
      · exact br_f (by decide) hp
theorem yp_join {post : Int32 → SY → Prop} {F G : Nat → Bool} {k : Nat} (hn : n < 7) (hh : h < 7) (h1 : 1 ≤ k) (h4 : k ≤ 4) (hF : ∀ w, w < 2 ^ n → fm (64 * h + w) = bi_I (F w)) (hG : ∀ w, w < 2 ^ n → fm (64 * (h + 1) + w) = bi_I (G w)) (hp : post (nI (h + 1)) (nI n, nI (2 ^ n), nI (h + 1), he, fa_F fm (64 * h) (fun w => bi_I (jn_j k (F w) (G w))) (2 ^ n), re, fa)) : ∃ m, wY_connect_114 post (nI k) (nI (64 * (h + 1))) (nI (64 * h)) (nI n) (nI (2 ^ n)) (nI (h + 2)) m 0 he fm re fa := by
  have hW := bb_W n hn
  have key := xl_up (fun m i => wY_connect_114 post (nI k) (nI (64 * (h + 1))) (nI (64 * h)) (nI n) (nI (2 ^ n)) (nI (h + 2)) m (nI i) he (fa_F fm (64 * h) (fun w => bi_I (jn_j k (F w) (G w))) i) re fa) (2 ^ n) (fun m => br_t (nI_le (Nat.le_refl _) (xw_W31 hn)) (show wY_connect_168 _ _ _ _ _ _ _ _ from nm_r (nI_pred (h + 1)) hp)) (fun m i hi ih => by
    have e1 : nI (64 * h) + nI i = nI (64 * h + i) := nI_add _ _
    have e2 : nI (64 * (h + 1)) + nI i = nI (64 * (h + 1) + i) := nI_add _ _
    have hin : vp_in (nI (64 * h) + nI i) 512 := by rw [e1]; exact vp_in_nI (by omega) (by decide)
    have hin2 : vp_in (nI (64 * (h + 1)) + nI i) 512 := by rw [e2]; exact vp_in_nI (by omega) (by decide)
    have hrd : fa_F fm (64 * h) (fun w => bi_I (jn_j k (F w) (G w))) i (nI (64 * h) + nI i).toNatClampNeg = bi_I (F i) := by
      rw [e1, nI_clamp (by omega), fa_out (by omega), hF i hi]
    have hrd2 : fa_F fm (64 * h) (fun w => bi_I (jn_j k (F w) (G w))) i (nI (64 * (h + 1)) + nI i).toNatClampNeg = bi_I (G i) := by
      rw [e2, nI_clamp (by omega), fa_out (by omega), hG i hi]
    refine br_f (nI_ge hi (xw_W31 hn)) (br_f (nI_ge (b := 64) (by omega) (by decide)) ⟨hin, hin2, ?_⟩)
    rw [hrd, hrd2]
    exact jn_y h1 h4 ⟨hin, nm_r (yf_up (c := jn_j k (F i) (G i)) e1 (by omega) rfl) (nm_r (nI_1 i) ih)⟩)
  obtain ⟨m, hm⟩ := key
  refine ⟨m, ?_⟩
  have hm' : wY_connect_114 post (nI k) (nI (64 * (h + 1))) (nI (64 * h)) (nI n) (nI (2 ^ n)) (nI (h + 2)) m (nI 0) he (fa_F fm (64 * h) (fun w => bi_I (jn_j k (F w) (G w))) 0) re fa := hm
  rw [fa_0] at hm'
  exact hm'
theorem yp_expand {post : Int32 → SY → Prop} {B F : Nat → Bool} {b : Nat} (hn : n < 7) (hh : h < 8) (hb : b < 3) (hB : ∀ w, w < 2 ^ n → he (64 * b + w) = bi_I (B w)) (hF : ∀ w, w < 2 ^ n → fm (64 * h + w) = bi_I (F w)) (hp : ∀ re', post (nI (pm_cn (fun w => B w && F w) (2 ^ n))) (nI n, nI (2 ^ n), nI h, fa_F he (64 * b) (fun w => bi_I (B w && F w)) (2 ^ n), fm, re', fa)) : ∃ m, wY_expand_22 post (nI b) (nI n) (nI (2 ^ n)) (nI (h + 1)) m 0 he fm re fa := by
  have hW := bb_W n hn
  have key := xl_up (fun m i => wY_expand_22 post (nI b) (nI n) (nI (2 ^ n)) (nI (h + 1)) m (nI i) he fm (fa_F re 0 (fun w => bi_I (B w && F w)) i) fa) (2 ^ n) (fun m => br_t (nI_le (Nat.le_refl _) (xw_W31 hn)) (show wY_expand_70 _ _ _ _ _ _ _ _ _ from nm_r (nI_pred h) (yw_store hn hb (R := fun w => B w && F w) (fun w hw => y0_in hw) (hp _)))) (fun m i hi ih => by
    refine br_f (nI_ge hi (xw_W31 hn)) (br_f (nI_ge (b := 64) (by omega) (by decide)) (yw_in hb (by omega) (hB i hi) ?_))
    have hin : vp_in (nI i) 64 := vp_in_nI (by omega) (by decide)
    cases hc : B i
    · exact br_t rfl ⟨hin, nm_r (yr_up (R := fun w => B w && F w) (c := false) (by show (B i && F i) = false; rw [hc]; rfl) (by omega)) (nm_r (nI_1 i) ih)⟩
    · refine br_f (by decide) (yw_top hh (by omega) (hF i hi) ?_)
      cases hc2 : F i
      · exact br_t rfl ⟨hin, nm_r (yr_up (R := fun w => B w && F w) (c := false) (by show (B i && F i) = false; rw [hc, hc2]; rfl) (by omega)) (nm_r (nI_1 i) ih)⟩
      · exact br_f (by decide) ⟨hin, nm_r (yr_up (R := fun w => B w && F w) (c := true) (by show (B i && F i) = true; rw [hc, hc2]; rfl) (by omega)) (nm_r (nI_1 i) ih)⟩)
  obtain ⟨m, hm⟩ := key
  refine ⟨m, ?_⟩
  have hm' : wY_expand_22 post (nI b) (nI n) (nI (2 ^ n)) (nI (h + 1)) m (nI 0) he fm (fa_F re 0 (fun w => bi_I (B w && F w)) 0) fa := hm
  rw [fa_0] at hm'
  exact hm'
end
end
section
/-! the reference's calls by distance, by least change, forget, copy -/
section
variable {n h : Nat} {hI : Int32} {he fm re fa : Nat → Int32}
theorem yq_revise3 {post : Int32 → SY → Prop} {F : Nat → Bool} {D : Nat → Nat} {L : Nat} {b : Nat} (hn : n < 7) (hh : h < 8) (hb : b < 3) (hF : ∀ w, w < 2 ^ n → fm (64 * h + w) = bi_I (F w)) (hD : ∀ w, w < 2 ^ n → fa w = nI (D w)) (hD2 : ∀ w, w < 2 ^ n → D w < 1000) (hL : L ≤ 1000) (hp : ∀ re', post (nI (pm_cn (fun w => F w && decide (D w = L)) (2 ^ n))) (nI n, nI (2 ^ n), nI h, fa_F he (64 * b) (fun w => bi_I (F w && decide (D w = L))) (2 ^ n), fm, re', fa)) : ∃ m, wY_revise_62 post (nI b) (nI L) (nI n) (nI (2 ^ n)) (nI (h + 1)) m 0 he fm re fa := by
  have hW := bb_W n hn
  have key := xl_up (fun m i => wY_revise_62 post (nI b) (nI L) (nI n) (nI (2 ^ n)) (nI (h + 1)) m (nI i) he fm (fa_F re 0 (fun w => bi_I (F w && decide (D w = L))) i) fa) (2 ^ n) (fun m => br_t (nI_le (Nat.le_refl _) (xw_W31 hn)) (show wY_revise_111 _ _ _ _ _ _ _ _ _ from nm_r (nI_pred h) (yw_store hn hb (R := fun w => F w && decide (D w = L)) (fun w hw => y0_in hw) (hp _)))) (fun m i hi ih => by
    refine br_f (nI_ge hi (xw_W31 hn)) (br_f (nI_ge (b := 64) (by omega) (by decide)) (yw_top hh (by omega) (hF i hi) ?_))
    have hin : vp_in (nI i) 64 := vp_in_nI (by omega) (by decide)
    have hd := hD2 i hi
    cases hc : F i
    · exact br_t rfl ⟨hin, nm_r (yr_up (R := fun w => F w && decide (D w = L)) (c := false) (by show (F i && decide (D i = L)) = false; rw [hc]; rfl) (by omega)) (nm_r (nI_1 i) ih)⟩
    · refine br_f (by decide) ⟨hin, ?_⟩
      rw [show fa (nI i).toNatClampNeg = nI (D i) by rw [nI_clamp (by omega)]; exact hD i hi]
      by_cases hq : D i = L
      · exact br_t (congrArg nI hq) ⟨hin, nm_r (yr_up (R := fun w => F w && decide (D w = L)) (c := true) (by show (F i && decide (D i = L)) = true; rw [hc, decide_eq_true hq]; rfl) (by omega)) (nm_r (nI_1 i) ih)⟩
      · exact br_f (fun z => hq ((nI_eq (by omega) (by omega)).mp z)) ⟨hin, nm_r (yr_up (R := fun w => F w && decide (D w = L)) (c := false) (by show (F i && decide (D i = L)) = false; rw [decide_eq_false hq, Bool.and_false]) (by omega)) (nm_r (nI_1 i) ih)⟩)
  obtain ⟨m, hm⟩ := key
  refine ⟨m, ?_⟩
  have hm' : wY_revise_62 post (nI b) (nI L) (nI n) (nI (2 ^ n)) (nI (h + 1)) m (nI 0) he fm (fa_F re 0 (fun w => bi_I (F w && decide (D w = L))) 0) fa := hm
  rw [fa_0] at hm'
  exact hm'
theorem yp_revise {post : Int32 → SY → Prop} {A B F : Nat → Bool} {a b : Nat} (hn : n < 7) (hh : h < 8) (ha : a < 3) (hb : b < 3) (hA : ∀ w, w < 2 ^ n → he (64 * a + w) = bi_I (A w)) (hB : ∀ w, w < 2 ^ n → he (64 * b + w) = bi_I (B w)) (hF : ∀ w, w < 2 ^ n → fm (64 * h + w) = bi_I (F w)) (hp : ∀ re' fa', post (nI (pm_cn (fun w => F w && decide (pm_ds n B w = pm_mn (fun w => F w == true) (fun w => pm_ds n B w) 1000 (2 ^ n))) (2 ^ n))) (nI n, nI (2 ^ n), nI h, fa_F he (64 * b) (fun w => bi_I (F w && decide (pm_ds n B w = pm_mn (fun w => F w == true) (fun w => pm_ds n B w) 1000 (2 ^ n)))) (2 ^ n), fm, re', fa')) : ∃ m, wY_revise_22 post (nI b) (nI n) (nI (2 ^ n)) (nI (h + 1)) m 0 he fm re fa := by
  have hW := bb_W n hn
  have hD2 : ∀ w, pm_ds n B w < 1000 := by
    intro w
    have h1 := pm_ds_z n A w
    have h2 := pm_ds_z n B w
    omega
  have key := xl_up (fun m i => wY_revise_22 post (nI b) (nI n) (nI (2 ^ n)) (nI (h + 1)) m (nI i) he fm re (fa_F fa 0 (fun w => nI (pm_ds n B w)) i)) (2 ^ n) (fun m => br_t (nI_le (Nat.le_refl _) (xw_W31 hn)) (show wY_revise_54 _ _ _ _ _ _ _ _ _ from yw_least (t := true) (F := F) (D := fun w => pm_ds n B w) hn hh hF (fun w hw => y0_in hw) (fun w _ => hD2 w) (yq_revise3 (F := F) (D := fun w => pm_ds n B w) hn hh hb hF (fun w hw => y0_in hw) (fun w _ => hD2 w) (pm_mn_z _ _ _ _) (fun re' => hp re' _)))) (fun m i hi ih => by
    refine br_f (nI_ge hi (xw_W31 hn)) (br_f (nI_ge (b := 64) (by omega) (by decide)) ?_)
    have hin : vp_in (nI i) 64 := vp_in_nI (by omega) (by decide)
    exact yw_dist hn hb hi hB ⟨hin, nm_r (yd_up (D := fun w => pm_ds n B w) (by omega)) (nm_r (nI_1 i) ih)⟩)
  obtain ⟨m, hm⟩ := key
  refine ⟨m, ?_⟩
  have hm' : wY_revise_22 post (nI b) (nI n) (nI (2 ^ n)) (nI (h + 1)) m (nI 0) he fm re (fa_F fa 0 (fun w => nI (pm_ds n B w)) 0) := hm
  rw [fa_0] at hm'
  exact hm'
theorem yq_merge3 {post : Int32 → SY → Prop} {F : Nat → Bool} {D : Nat → Nat} {L : Nat} {b : Nat} (hn : n < 7) (hh : h < 8) (hb : b < 3) (hF : ∀ w, w < 2 ^ n → fm (64 * h + w) = bi_I (F w)) (hD : ∀ w, w < 2 ^ n → fa w = nI (D w)) (hD2 : ∀ w, w < 2 ^ n → D w < 1000) (hL : L ≤ 1000) (hp : ∀ re', post (nI (pm_cn (fun w => F w && decide (D w = L)) (2 ^ n))) (nI n, nI (2 ^ n), nI h, fa_F he (64 * b) (fun w => bi_I (F w && decide (D w = L))) (2 ^ n), fm, re', fa)) : ∃ m, wY_merge_78 post (nI b) (nI L) (nI n) (nI (2 ^ n)) (nI (h + 1)) m 0 he fm re fa := by
  have hW := bb_W n hn
  have key := xl_up (fun m i => wY_merge_78 post (nI b) (nI L) (nI n) (nI (2 ^ n)) (nI (h + 1)) m (nI i) he fm (fa_F re 0 (fun w => bi_I (F w && decide (D w = L))) i) fa) (2 ^ n) (fun m => br_t (nI_le (Nat.le_refl _) (xw_W31 hn)) (show wY_merge_132 _ _ _ _ _ _ _ _ _ from nm_r (nI_pred h) (yw_store hn hb (R := fun w => F w && decide (D w = L)) (fun w hw => y0_in hw) (hp _)))) (fun m i hi ih => by
    refine br_f (nI_ge hi (xw_W31 hn)) (br_f (nI_ge (b := 64) (by omega) (by decide)) (yw_top hh (by omega) (hF i hi) ?_))
    have hin : vp_in (nI i) 64 := vp_in_nI (by omega) (by decide)
    have hd := hD2 i hi
    cases hc : F i
    · exact br_t rfl ⟨hin, nm_r (yr_up (R := fun w => F w && decide (D w = L)) (c := false) (by show (F i && decide (D i = L)) = false; rw [hc]; rfl) (by omega)) (nm_r (nI_1 i) ih)⟩
    · refine br_f (by decide) ⟨hin, ?_⟩
      rw [show fa (nI i).toNatClampNeg = nI (D i) by rw [nI_clamp (by omega)]; exact hD i hi]
      by_cases hq : D i = L
      · exact br_t (congrArg nI hq) ⟨hin, nm_r (yr_up (R := fun w => F w && decide (D w = L)) (c := true) (by show (F i && decide (D i = L)) = true; rw [hc, decide_eq_true hq]; rfl) (by omega)) (nm_r (nI_1 i) ih)⟩
      · exact br_f (fun z => hq ((nI_eq (by omega) (by omega)).mp z)) ⟨hin, nm_r (yr_up (R := fun w => F w && decide (D w = L)) (c := false) (by show (F i && decide (D i = L)) = false; rw [decide_eq_false hq, Bool.and_false]) (by omega)) (nm_r (nI_1 i) ih)⟩)
  obtain ⟨m, hm⟩ := key
  refine ⟨m, ?_⟩
  have hm' : wY_merge_78 post (nI b) (nI L) (nI n) (nI (2 ^ n)) (nI (h + 1)) m (nI 0) he fm (fa_F re 0 (fun w => bi_I (F w && decide (D w = L))) 0) fa := hm
  rw [fa_0] at hm'
  exact hm'
theorem yp_merge {post : Int32 → SY → Prop} {A B F : Nat → Bool} {a b : Nat} (hn : n < 7) (hh : h < 8) (ha : a < 3) (hb : b < 3) (hA : ∀ w, w < 2 ^ n → he (64 * a + w) = bi_I (A w)) (hB : ∀ w, w < 2 ^ n → he (64 * b + w) = bi_I (B w)) (hF : ∀ w, w < 2 ^ n → fm (64 * h + w) = bi_I (F w)) (hp : ∀ re' fa', post (nI (pm_cn (fun w => F w && decide (pm_ds n A w + pm_ds n B w = pm_mn (fun w => F w == true) (fun w => pm_ds n A w + pm_ds n B w) 1000 (2 ^ n))) (2 ^ n))) (nI n, nI (2 ^ n), nI h, fa_F he (64 * b) (fun w => bi_I (F w && decide (pm_ds n A w + pm_ds n B w = pm_mn (fun w => F w == true) (fun w => pm_ds n A w + pm_ds n B w) 1000 (2 ^ n)))) (2 ^ n), fm, re', fa')) : ∃ m, wY_merge_30 post (nI a) (nI b) (nI n) (nI (2 ^ n)) (nI (h + 1)) m 0 he fm re fa := by
  have hW := bb_W n hn
  have hD2 : ∀ w, pm_ds n A w + pm_ds n B w < 1000 := by
    intro w
    have h1 := pm_ds_z n A w
    have h2 := pm_ds_z n B w
    omega
  have key := xl_up (fun m i => wY_merge_30 post (nI a) (nI b) (nI n) (nI (2 ^ n)) (nI (h + 1)) m (nI i) he fm re (fa_F fa 0 (fun w => nI (pm_ds n A w + pm_ds n B w)) i)) (2 ^ n) (fun m => br_t (nI_le (Nat.le_refl _) (xw_W31 hn)) (show wY_merge_69 _ _ _ _ _ _ _ _ _ from yw_least (t := true) (F := F) (D := fun w => pm_ds n A w + pm_ds n B w) hn hh hF (fun w hw => y0_in hw) (fun w _ => hD2 w) (yq_merge3 (F := F) (D := fun w => pm_ds n A w + pm_ds n B w) hn hh hb hF (fun w hw => y0_in hw) (fun w _ => hD2 w) (pm_mn_z _ _ _ _) (fun re' => hp re' _)))) (fun m i hi ih => by
    refine br_f (nI_ge hi (xw_W31 hn)) (br_f (nI_ge (b := 64) (by omega) (by decide)) ?_)
    have hin : vp_in (nI i) 64 := vp_in_nI (by omega) (by decide)
    exact yw_dist hn ha hi hA (yw_dist hn hb hi hB ⟨hin, nm_r ((congrArg (upd _ _) (nI_add _ _)).trans (yd_up (D := fun w => pm_ds n A w + pm_ds n B w) (by omega))) (nm_r (nI_1 i) ih)⟩))
  obtain ⟨m, hm⟩ := key
  refine ⟨m, ?_⟩
  have hm' : wY_merge_30 post (nI a) (nI b) (nI n) (nI (2 ^ n)) (nI (h + 1)) m (nI 0) he fm re (fa_F fa 0 (fun w => nI (pm_ds n A w + pm_ds n B w)) 0) := hm
  rw [fa_0] at hm'
  exact hm'
theorem yp_copy {post : Int32 → SY → Prop} {A : Nat → Bool} {a b : Nat} (hn : n < 7) (ha : a < 3) (hb : b < 3) (hA : ∀ w, w < 2 ^ n → he (64 * a + w) = bi_I (A w)) (hp : ∀ re', post (nI (pm_cn A (2 ^ n))) (nI n, nI (2 ^ n), hI, fa_F he (64 * b) (fun w => bi_I (A w)) (2 ^ n), fm, re', fa)) : ∃ m, wY_copy_20 post (nI a) (nI b) (nI n) (nI (2 ^ n)) hI m 0 he fm re fa := by
  have hW := bb_W n hn
  have key := xl_up (fun m i => wY_copy_20 post (nI a) (nI b) (nI n) (nI (2 ^ n)) hI m (nI i) he fm (fa_F re 0 (fun w => bi_I (A w)) i) fa) (2 ^ n) (fun m => br_t (nI_le (Nat.le_refl _) (xw_W31 hn)) (show wY_copy_52 _ _ _ _ _ _ _ _ _ from yw_store hn hb (R := A) (fun w hw => y0_in hw) (hp _))) (fun m i hi ih => by
    refine br_f (nI_ge hi (xw_W31 hn)) (br_f (nI_ge (b := 64) (by omega) (by decide)) (yw_in ha (by omega) (hA i hi) ?_))
    have hin : vp_in (nI i) 64 := vp_in_nI (by omega) (by decide)
    exact ⟨hin, nm_r (yr_up (R := A) (c := A i) rfl (by omega)) (nm_r (nI_1 i) ih)⟩)
  obtain ⟨m, hm⟩ := key
  refine ⟨m, ?_⟩
  have hm' : wY_copy_20 post (nI a) (nI b) (nI n) (nI (2 ^ n)) hI m (nI 0) he fm (fa_F re 0 (fun w => bi_I (A w)) 0) fa := hm
  rw [fa_0] at hm'
  exact hm'
theorem yp_forget {post : Int32 → SY → Prop} {B : Nat → Bool} {b v : Nat} (hn : n < 7) (hb : b < 3) (hv : v < n) (hB : ∀ w, w < 2 ^ n → he (64 * b + w) = bi_I (B w)) (hp : ∀ re', post (nI (pm_cn (fun w => B w || B (w ^^^ 2 ^ v)) (2 ^ n))) (nI n, nI (2 ^ n), hI, fa_F he (64 * b) (fun w => bi_I (B w || B (w ^^^ 2 ^ v))) (2 ^ n), fm, re', fa)) : ∃ m, wY_forget_23 post (nI b) (nI v) (nI n) (nI (2 ^ n)) hI m 0 he fm re fa := by
  have hW := bb_W n hn
  have key := xl_up (fun m i => wY_forget_23 post (nI b) (nI v) (nI n) (nI (2 ^ n)) hI m (nI i) he fm (fa_F re 0 (fun w => bi_I (B w || B (w ^^^ 2 ^ v))) i) fa) (2 ^ n) (fun m => br_t (nI_le (Nat.le_refl _) (xw_W31 hn)) (show wY_forget_76 _ _ _ _ _ _ _ _ _ from yw_store hn hb (R := fun w => B w || B (w ^^^ 2 ^ v)) (fun w hw => y0_in hw) (hp _))) (fun m i hi ih => by
    refine br_f (nI_ge hi (xw_W31 hn)) (br_f (nI_ge (b := 64) (by omega) (by decide)) (yw_in hb (by omega) (hB i hi) ?_))
    have hin : vp_in (nI i) 64 := vp_in_nI (by omega) (by decide)
    have hx : i ^^^ 2 ^ v < 2 ^ n := pm_xlt hi (pm_plt hv)
    cases hc : B i
    · refine br_t rfl ?_
      rw [bi_xor i (by omega)]
      refine yw_in hb (by omega) (hB _ hx) ?_
      cases hc2 : B (i ^^^ 2 ^ v)
      · exact br_t rfl ⟨hin, nm_r (yr_up (R := fun w => B w || B (w ^^^ 2 ^ v)) (c := false) (by show (B i || B (i ^^^ 2 ^ v)) = false; rw [hc, hc2]; rfl) (by omega)) (nm_r (nI_1 i) ih)⟩
      · exact br_f (by decide) ⟨hin, nm_r (yr_up (R := fun w => B w || B (w ^^^ 2 ^ v)) (c := true) (by show (B i || B (i ^^^ 2 ^ v)) = true; rw [hc, hc2]; rfl) (by omega)) (nm_r (nI_1 i) ih)⟩
    · exact br_f (by decide) ⟨hin, nm_r (yr_up (R := fun w => B w || B (w ^^^ 2 ^ v)) (c := true) (by show (B i || B (i ^^^ 2 ^ v)) = true; rw [hc]; rfl) (by omega)) (nm_r (nI_1 i) ih)⟩)
  obtain ⟨m, hm⟩ := key
  refine ⟨m, ?_⟩
  have hm' : wY_forget_23 post (nI b) (nI v) (nI n) (nI (2 ^ n)) hI m (nI 0) he fm (fa_F re 0 (fun w => bi_I (B w || B (w ^^^ 2 ^ v))) 0) fa := hm
  rw [fa_0] at hm'
  exact hm'
theorem yw_nearer {post : Int32 → Prop} {F : Nat → Bool} {u w : Nat} (hn : n < 7) (hh : h < 8) (hu : u < 2 ^ n) (hw : w < 2 ^ n) (hF : ∀ w, w < 2 ^ n → fm (64 * h + w) = bi_I (F w)) (hp : post (bi_I (pu_nr F (2 ^ n) u w))) : wpY_nearer post (nI n, nI (2 ^ n), nI (h + 1), he, fm, re, fa) (nI u) (nI w) := by
  have hW := bb_W n hn
  have huw := pm_xlt hu hw
  refine nm_r (nx_xor u w) (xl_find (fun x => F x && (decide (x ^^^ w ≠ u ^^^ w) && decide ((x ^^^ w) &&& (u ^^^ w) = x ^^^ w))) (fun m i => wY_nearer_7 post (nI w) (nI (u ^^^ w)) (nI n) (nI (2 ^ n)) (nI (h + 1)) he fm re fa m (nI i)) (2 ^ n) ?_ ?_)
  · intro hf m
    have hf' : pu_nr F (2 ^ n) u w = false := hf
    rw [hf'] at hp
    exact br_t (nI_le (Nat.le_refl _) (xw_W31 hn)) hp
  · intro m i hi k1 k2
    have k1' : (F i && (decide (i ^^^ w ≠ u ^^^ w) && decide ((i ^^^ w) &&& (u ^^^ w) = i ^^^ w))) = false → wY_nearer_7 post (nI w) (nI (u ^^^ w)) (nI n) (nI (2 ^ n)) (nI (h + 1)) he fm re fa m (nI (i + 1)) := k1
    have k2' : (F i && (decide (i ^^^ w ≠ u ^^^ w) && decide ((i ^^^ w) &&& (u ^^^ w) = i ^^^ w))) = true → pu_nr F (2 ^ n) u w = true := k2
    clear k1 k2
    have hiw := pm_xlt hi hw
    refine br_f (nI_ge hi (xw_W31 hn)) (nm_r (nx_xor i w) (yw_top hh (by omega) (hF i hi) ?_))
    cases hc : F i
    · exact br_t rfl (nm_r (nI_1 i) (k1' (by rw [hc]; rfl)))
    · refine br_f (by decide) ?_
      by_cases h1 : i ^^^ w = u ^^^ w
      · exact br_t (congrArg nI h1) (nm_r (nI_1 i) (k1' (by rw [decide_eq_false (fun z => z h1), Bool.false_and, Bool.and_false])))
      · refine br_f (fun z => h1 ((nI_eq (by omega) (by omega)).mp z)) ?_
        have ha : (i ^^^ w) &&& (u ^^^ w) < 2 ^ n := Nat.lt_of_le_of_lt Nat.and_le_left hiw
        by_cases h2 : (i ^^^ w) &&& (u ^^^ w) = i ^^^ w
        · refine br_t ((nx_and _ _).trans (congrArg nI h2)) ?_
          rw [k2' (by rw [hc, decide_eq_true h1, decide_eq_true h2]; rfl)] at hp
          exact hp
        · refine br_f (fun z => h2 ?_) (nm_r (nI_1 i) (k1' (by rw [decide_eq_false h2, Bool.and_false, Bool.and_false])))
          exact (nI_eq (by omega) (by omega)).mp ((nx_and _ _).symm.trans z)
theorem yw_reached {post : Int32 → Prop} {B F : Nat → Bool} {b u : Nat} (hn : n < 7) (hh : h < 8) (hb : b < 3) (hu : u < 2 ^ n) (hB : ∀ w, w < 2 ^ n → he (64 * b + w) = bi_I (B w)) (hF : ∀ w, w < 2 ^ n → fm (64 * h + w) = bi_I (F w)) (hp : post (bi_I (pm_ex (fun w => B w && !pu_nr F (2 ^ n) u w) (2 ^ n)))) : wpY_reached post (nI n, nI (2 ^ n), nI (h + 1), he, fm, re, fa) (nI b) (nI u) := by
  have hW := bb_W n hn
  refine xl_find (fun w => B w && !pu_nr F (2 ^ n) u w) (fun m i => wY_reached_2 post (nI b) (nI u) (nI n) (nI (2 ^ n)) (nI (h + 1)) he fm re fa m (nI i)) (2 ^ n) ?_ ?_
  · intro hf m
    rw [hf] at hp
    exact br_t (nI_le (Nat.le_refl _) (xw_W31 hn)) hp
  · intro m i hi k1 k2
    have k1' : (B i && !pu_nr F (2 ^ n) u i) = false → wY_reached_2 post (nI b) (nI u) (nI n) (nI (2 ^ n)) (nI (h + 1)) he fm re fa m (nI (i + 1)) := k1
    have k2' : (B i && !pu_nr F (2 ^ n) u i) = true → pm_ex (fun w => B w && !pu_nr F (2 ^ n) u w) (2 ^ n) = true := k2
    clear k1 k2
    refine br_f (nI_ge hi (xw_W31 hn)) (yw_in hb (by omega) (hB i hi) ?_)
    cases hc : B i
    · exact br_t rfl (nm_r (nI_1 i) (k1' (by rw [hc]; rfl)))
    · refine br_f (by decide) (yw_nearer hn hh hu hi hF ?_)
      cases hq : pu_nr F (2 ^ n) u i
      · refine br_t rfl ?_
        rw [k2' (by rw [hc, hq]; rfl)] at hp
        exact hp
      · exact br_f (by decide) (nm_r (nI_1 i) (k1' (by rw [hq]; simp)))
theorem yp_update {post : Int32 → SY → Prop} {B F : Nat → Bool} {b : Nat} (hn : n < 7) (hh : h < 8) (hb : b < 3) (hB : ∀ w, w < 2 ^ n → he (64 * b + w) = bi_I (B w)) (hF : ∀ w, w < 2 ^ n → fm (64 * h + w) = bi_I (F w)) (hp : ∀ re', post (nI (pm_cn (fun u => F u && pm_ex (fun w => B w && !pu_nr F (2 ^ n) u w) (2 ^ n)) (2 ^ n))) (nI n, nI (2 ^ n), nI h, fa_F he (64 * b) (fun u => bi_I (F u && pm_ex (fun w => B w && !pu_nr F (2 ^ n) u w) (2 ^ n))) (2 ^ n), fm, re', fa)) : ∃ m, wY_update_22 post (nI b) (nI n) (nI (2 ^ n)) (nI (h + 1)) m 0 he fm re fa := by
  have hW := bb_W n hn
  generalize hR : (fun u => F u && pm_ex (fun w => B w && !pu_nr F (2 ^ n) u w) (2 ^ n)) = R at hp
  have hR' : ∀ u, R u = (F u && pm_ex (fun w => B w && !pu_nr F (2 ^ n) u w) (2 ^ n)) := fun u => by rw [← hR]
  have hp' : ∀ re', post (nI (pm_cn R (2 ^ n))) (nI n, nI (2 ^ n), nI h, fa_F he (64 * b) (fun u => bi_I (R u)) (2 ^ n), fm, re', fa) := fun re' => by
    have h9 := hp re'
    simp only [← hR'] at h9
    exact h9
  have key := xl_up (fun m i => wY_update_22 post (nI b) (nI n) (nI (2 ^ n)) (nI (h + 1)) m (nI i) he fm (fa_F re 0 (fun w => bi_I (R w)) i) fa) (2 ^ n) (fun m => br_t (nI_le (Nat.le_refl _) (xw_W31 hn)) (show wY_update_70 _ _ _ _ _ _ _ _ _ from nm_r (nI_pred h) (yw_store hn hb (R := R) (fun w hw => y0_in hw) (hp' _)))) (fun m i hi ih => by
    refine br_f (nI_ge hi (xw_W31 hn)) (br_f (nI_ge (b := 64) (by omega) (by decide)) (yw_top hh (by omega) (hF i hi) ?_))
    have hin : vp_in (nI i) 64 := vp_in_nI (by omega) (by decide)
    cases hc : F i
    · exact br_t rfl ⟨hin, nm_r (yr_up (R := R) (c := false) (by rw [hR', hc]; rfl) (by omega)) (nm_r (nI_1 i) ih)⟩
    · refine br_f (by decide) (yw_reached hn hh hb hi hB hF ?_)
      cases hq : pm_ex (fun w => B w && !pu_nr F (2 ^ n) i w) (2 ^ n)
      · exact br_t rfl ⟨hin, nm_r (yr_up (R := R) (c := false) (by rw [hR', hq, Bool.and_false]) (by omega)) (nm_r (nI_1 i) ih)⟩
      · exact br_f (by decide) ⟨hin, nm_r (yr_up (R := R) (c := true) (by rw [hR', hq, hc]; rfl) (by omega)) (nm_r (nI_1 i) ih)⟩)
  obtain ⟨m, hm⟩ := key
  refine ⟨m, ?_⟩
  have hm' : wY_update_22 post (nI b) (nI n) (nI (2 ^ n)) (nI (h + 1)) m (nI 0) he fm (fa_F re 0 (fun w => bi_I (R w)) 0) fa := hm
  rw [fa_0] at hm'
  exact hm'
end
end
section
/-! the reference's giveUp, and its questions -/
section
variable {n h : Nat} {hI : Int32} {he fm re fa : Nat → Int32}
theorem yg_end {post : Int32 → SY → Prop} {R : Nat → Bool} {b : Nat} (hn : n < 7) (hb : b < 3) (hR : ∀ w, w < 2 ^ n → re w = bi_I (R w)) (hp : post (nI (pm_cn R (2 ^ n))) (nI n, nI (2 ^ n), nI h, fa_F he (64 * b) (fun w => bi_I (R w)) (2 ^ n), fm, re, fa)) : wY_giveUp_172 post (nI b) (nI n) (nI (2 ^ n)) (nI (h + 1)) he fm re fa :=
  nm_r (nI_pred h) (yw_store hn hb hR hp)
theorem yg_3 {post : Int32 → SY → Prop} {B F : Nat → Bool} {D : Nat → Nat} {L b : Nat} (hn : n < 7) (hh : h < 8) (hb : b < 3) (hF : ∀ w, w < 2 ^ n → fm (64 * h + w) = bi_I (F w)) (hre : ∀ w, w < 2 ^ n → re w = bi_I (B w)) (hD : ∀ w, w < 2 ^ n → fa w = nI (D w)) (hD2 : ∀ w, w < 2 ^ n → D w < 1000) (hL : L ≤ 1000) (hp : ∀ re', post (nI (pm_cn (fun w => B w || (!F w && decide (D w = L))) (2 ^ n))) (nI n, nI (2 ^ n), nI h, fa_F he (64 * b) (fun w => bi_I (B w || (!F w && decide (D w = L)))) (2 ^ n), fm, re', fa)) : ∃ m, wY_giveUp_122 post (nI b) (nI L) (nI n) (nI (2 ^ n)) (nI (h + 1)) m 0 he fm re fa := by
  have hW := bb_W n hn
  have key := xl_up (fun m i => wY_giveUp_122 post (nI b) (nI L) (nI n) (nI (2 ^ n)) (nI (h + 1)) m (nI i) he fm (fa_F re 0 (fun w => bi_I (B w || (!F w && decide (D w = L)))) i) fa) (2 ^ n) (fun m => br_t (nI_le (Nat.le_refl _) (xw_W31 hn)) (yg_end hn hb (R := fun w => B w || (!F w && decide (D w = L))) (fun w hw => y0_in hw) (hp _))) (fun m i hi ih => by
    refine br_f (nI_ge hi (xw_W31 hn)) (br_f (nI_ge (b := 64) (by omega) (by decide)) (yw_top hh (by omega) (hF i hi) ?_))
    have ih' : wY_giveUp_122 post (nI b) (nI L) (nI n) (nI (2 ^ n)) (nI (h + 1)) m (nI (i + 1)) he fm (fa_F re 0 (fun w => bi_I (B w || (!F w && decide (D w = L)))) (i + 1)) fa := ih
    clear ih
    have hin : vp_in (nI i) 64 := vp_in_nI (by omega) (by decide)
    have hd := hD2 i hi
    have hkeep : (!F i && decide (D i = L)) = false → fa_F re 0 (fun w => bi_I (B w || (!F w && decide (D w = L)))) (i + 1) = fa_F re 0 (fun w => bi_I (B w || (!F w && decide (D w = L)))) i := fun z => fa_keep (by
      show re (0 + i) = bi_I (B i || (!F i && decide (D i = L)))
      rw [z, Bool.or_false, Nat.zero_add]; exact hre i hi)
    cases hc : F i
    · refine br_t rfl ⟨hin, ?_⟩
      rw [show fa (nI i).toNatClampNeg = nI (D i) by rw [nI_clamp (by omega)]; exact hD i hi]
      by_cases hq : D i = L
      · exact br_t (congrArg nI hq) ⟨hin, nm_r (yr_up (R := fun w => B w || (!F w && decide (D w = L))) (c := true) (by show (B i || (!F i && decide (D i = L))) = true; rw [hc, decide_eq_true hq]; simp) (by omega)) (nm_r (nI_1 i) ih')⟩
      · rw [hkeep (by rw [decide_eq_false hq, Bool.and_false])] at ih'
        exact br_f (fun z => hq ((nI_eq (by omega) (by omega)).mp z)) (nm_r (nI_1 i) ih')
    · rw [hkeep (by rw [hc]; rfl)] at ih'
      exact br_f (by decide) (nm_r (nI_1 i) ih'))
  obtain ⟨m, hm⟩ := key
  refine ⟨m, ?_⟩
  have hm' : wY_giveUp_122 post (nI b) (nI L) (nI n) (nI (2 ^ n)) (nI (h + 1)) m (nI 0) he fm (fa_F re 0 (fun w => bi_I (B w || (!F w && decide (D w = L)))) 0) fa := hm
  rw [fa_0] at hm'
  exact hm'
theorem yg_2 {post : Int32 → SY → Prop} {B F : Nat → Bool} {b : Nat} (hn : n < 7) (hh : h < 8) (hb : b < 3) (hB : ∀ w, w < 2 ^ n → he (64 * b + w) = bi_I (B w)) (hF : ∀ w, w < 2 ^ n → fm (64 * h + w) = bi_I (F w)) (hre : ∀ w, w < 2 ^ n → re w = bi_I (B w)) (hp : ∀ re' fa', post (nI (pm_cn (fun w => B w || (!F w && decide (pm_ds n B w = pm_mn (fun w => F w == false) (fun w => pm_ds n B w) 1000 (2 ^ n)))) (2 ^ n))) (nI n, nI (2 ^ n), nI h, fa_F he (64 * b) (fun w => bi_I (B w || (!F w && decide (pm_ds n B w = pm_mn (fun w => F w == false) (fun w => pm_ds n B w) 1000 (2 ^ n))))) (2 ^ n), fm, re', fa')) : ∃ m, wY_giveUp_81 post (nI b) (nI n) (nI (2 ^ n)) (nI (h + 1)) m 0 he fm re fa := by
  have hW := bb_W n hn
  have hD2 : ∀ w, pm_ds n B w < 1000 := by
    intro w
    have h1 := pm_ds_z n B w
    omega
  have key := xl_up (fun m i => wY_giveUp_81 post (nI b) (nI n) (nI (2 ^ n)) (nI (h + 1)) m (nI i) he fm re (fa_F fa 0 (fun w => nI (pm_ds n B w)) i)) (2 ^ n) (fun m => br_t (nI_le (Nat.le_refl _) (xw_W31 hn)) (show wY_giveUp_113 _ _ _ _ _ _ _ _ _ from yw_least (t := false) (F := F) (D := fun w => pm_ds n B w) hn hh hF (fun w hw => y0_in hw) (fun w _ => hD2 w) (yg_3 (B := B) (F := F) (D := fun w => pm_ds n B w) hn hh hb hF hre (fun w hw => y0_in hw) (fun w _ => hD2 w) (pm_mn_z _ _ _ _) (fun re' => hp re' _)))) (fun m i hi ih => by
    refine br_f (nI_ge hi (xw_W31 hn)) (br_f (nI_ge (b := 64) (by omega) (by decide)) ?_)
    have hin : vp_in (nI i) 64 := vp_in_nI (by omega) (by decide)
    exact yw_dist hn hb hi hB ⟨hin, nm_r (yd_up (D := fun w => pm_ds n B w) (by omega)) (nm_r (nI_1 i) ih)⟩)
  obtain ⟨m, hm⟩ := key
  refine ⟨m, ?_⟩
  have hm' : wY_giveUp_81 post (nI b) (nI n) (nI (2 ^ n)) (nI (h + 1)) m (nI 0) he fm re (fa_F fa 0 (fun w => nI (pm_ds n B w)) 0) := hm
  rw [fa_0] at hm'
  exact hm'
/-- what giveUp leaves -/
def gu_R (n : Nat) (B F : Nat → Bool) : Nat → Bool := if pm_ex (fun w => B w && !F w) (2 ^ n) = true then B else fun w => B w || (!F w && decide (pm_ds n B w = pm_mn (fun w => F w == false) (fun w => pm_ds n B w) 1000 (2 ^ n)))
theorem yp_giveUp {post : Int32 → SY → Prop} {B F : Nat → Bool} {b : Nat} (hn : n < 7) (hh : h < 8) (hb : b < 3) (hB : ∀ w, w < 2 ^ n → he (64 * b + w) = bi_I (B w)) (hF : ∀ w, w < 2 ^ n → fm (64 * h + w) = bi_I (F w)) (hp : ∀ re' fa', post (nI (pm_cn (gu_R n B F) (2 ^ n))) (nI n, nI (2 ^ n), nI h, fa_F he (64 * b) (fun w => bi_I (gu_R n B F w)) (2 ^ n), fm, re', fa')) : ∃ m, wY_giveUp_24 post (nI b) (nI n) (nI (2 ^ n)) (nI (h + 1)) m 1 0 he fm re fa := by
  have hW := bb_W n hn
  have key := xl_up (fun m i => wY_giveUp_24 post (nI b) (nI n) (nI (2 ^ n)) (nI (h + 1)) m (bi_I (!pm_ex (fun w => B w && !F w) i)) (nI i) he fm (fa_F re 0 (fun w => bi_I (B w)) i) fa) (2 ^ n) (fun m => br_t (nI_le (Nat.le_refl _) (xw_W31 hn)) (by
    cases hx : pm_ex (fun w => B w && !F w) (2 ^ n)
    · have e1 : gu_R n B F = fun w => B w || (!F w && decide (pm_ds n B w = pm_mn (fun w => F w == false) (fun w => pm_ds n B w) 1000 (2 ^ n))) := if_neg (by rw [hx]; decide)
      rw [e1] at hp
      exact br_f (by decide) (yg_2 (B := B) hn hh hb hB hF (fun w hw => y0_in hw) hp)
    · have e1 : gu_R n B F = B := if_pos hx
      rw [e1] at hp
      exact br_t rfl (yg_end hn hb (R := B) (fun w hw => y0_in hw) (hp _ _)))) (fun m i hi ih => by
    refine br_f (nI_ge hi (xw_W31 hn)) (br_f (nI_ge (b := 64) (by omega) (by decide)) (yw_in hb (by omega) (hB i hi) ?_))
    have ih' : wY_giveUp_24 post (nI b) (nI n) (nI (2 ^ n)) (nI (h + 1)) m (bi_I (!(pm_ex (fun w => B w && !F w) i || (B i && !F i)))) (nI (i + 1)) he fm (fa_F re 0 (fun w => bi_I (B w)) (i + 1)) fa := ih
    clear ih
    have hin : vp_in (nI i) 64 := vp_in_nI (by omega) (by decide)
    refine ⟨hin, nm_r (yr_up (R := B) (c := B i) rfl (by omega)) (yw_in hb (by omega) (hB i hi) ?_)⟩
    cases hc : B i
    · rw [hc, Bool.false_and, Bool.or_false] at ih'
      exact br_t rfl (nm_r (nI_1 i) ih')
    · refine br_f (by decide) (yw_top hh (by omega) (hF i hi) ?_)
      cases hc2 : F i
      · rw [hc, hc2, Bool.not_false, Bool.and_true, Bool.or_true] at ih'
        exact br_t rfl (nm_r (nI_1 i) ih')
      · rw [hc2, Bool.not_true, Bool.and_false, Bool.or_false] at ih'
        exact br_f (by decide) (nm_r (nI_1 i) ih'))
  obtain ⟨m, hm⟩ := key
  refine ⟨m, ?_⟩
  have hm' : wY_giveUp_24 post (nI b) (nI n) (nI (2 ^ n)) (nI (h + 1)) m 1 (nI 0) he fm (fa_F re 0 (fun w => bi_I (B w)) 0) fa := hm
  rw [fa_0] at hm'
  exact hm'
theorem ys_count {post : Int32 → Prop} {B : Nat → Bool} {b : Nat} (hn : n < 7) (hb : b < 3) (hB : ∀ w, w < 2 ^ n → he (64 * b + w) = bi_I (B w)) (hp : post (nI (pm_cn B (2 ^ n)))) : ∃ m, wY_count_14 post (nI b) (nI n) (nI (2 ^ n)) hI he fm re fa m 0 0 := by
  have hW := bb_W n hn
  refine xl_up (fun m i => wY_count_14 post (nI b) (nI n) (nI (2 ^ n)) hI he fm re fa m (nI (pm_cn B i)) (nI i)) (2 ^ n) (fun m => br_t (nI_le (Nat.le_refl _) (xw_W31 hn)) hp) (fun m i hi ih => ?_)
  refine br_f (nI_ge hi (xw_W31 hn)) (yw_in hb (by omega) (hB i hi) ?_)
  have ih' : wY_count_14 post (nI b) (nI n) (nI (2 ^ n)) hI he fm re fa m (nI (pm_cn B (i + 1))) (nI (i + 1)) := ih
  clear ih
  cases hC : B i
  · have e1 : pm_cn B (i + 1) = pm_cn B i := if_neg (by rw [hC]; decide)
    rw [e1] at ih'
    exact br_t rfl (nm_r (nI_1 i) ih')
  · have e1 : pm_cn B (i + 1) = pm_cn B i + 1 := if_pos hC
    rw [e1] at ih'
    exact br_f (by decide) (nm_r (nI_1 _) (nm_r (nI_1 i) ih'))
theorem ys_entails {post : Int32 → Prop} {B F : Nat → Bool} {b : Nat} (hn : n < 7) (hh : h < 8) (hb : b < 3) (hB : ∀ w, w < 2 ^ n → he (64 * b + w) = bi_I (B w)) (hF : ∀ w, w < 2 ^ n → fm (64 * h + w) = bi_I (F w)) (hp : post (bi_I (!pm_ex (fun w => B w && !F w) (2 ^ n)))) : ∃ m, wY_entails_22 post (nI b) (nI n) (nI (2 ^ n)) (nI (h + 1)) he fm re fa m 0 := by
  have hW := bb_W n hn
  refine xl_find (fun w => B w && !F w) (fun m i => wY_entails_22 post (nI b) (nI n) (nI (2 ^ n)) (nI (h + 1)) he fm re fa m (nI i)) (2 ^ n) ?_ ?_
  · intro hf m
    rw [hf] at hp
    exact br_t (nI_le (Nat.le_refl _) (xw_W31 hn)) hp
  · intro m i hi k1 k2
    have k1' : (B i && !F i) = false → wY_entails_22 post (nI b) (nI n) (nI (2 ^ n)) (nI (h + 1)) he fm re fa m (nI (i + 1)) := k1
    have k2' : (B i && !F i) = true → pm_ex (fun w => B w && !F w) (2 ^ n) = true := k2
    clear k1 k2
    refine br_f (nI_ge hi (xw_W31 hn)) (yw_in hb (by omega) (hB i hi) ?_)
    cases hc : B i
    · exact br_t rfl (nm_r (nI_1 i) (k1' (by rw [hc]; rfl)))
    · refine br_f (by decide) (yw_top hh (by omega) (hF i hi) ?_)
      cases hq : F i
      · refine br_t rfl ?_
        rw [k2' (by rw [hc, hq]; rfl)] at hp
        exact hp
      · exact br_f (by decide) (nm_r (nI_1 i) (k1' (by rw [hq]; simp)))
theorem ys_distance {post : Int32 → Prop} {A B : Nat → Bool} {a b : Nat} (hn : n < 7) (ha : a < 3) (hb : b < 3) (hA : ∀ w, w < 2 ^ n → he (64 * a + w) = bi_I (A w)) (hB : ∀ w, w < 2 ^ n → he (64 * b + w) = bi_I (B w)) (hp : post (nI (pm_mn B (pm_ds n A) (n + 1) (2 ^ n)))) : ∃ m, wY_distance_47 post (nI a) (nI b) (nI n) (nI (2 ^ n)) hI he fm re fa m (nI (n + 1)) 0 := by
  have hW := bb_W n hn
  refine xl_up (fun m i => wY_distance_47 post (nI a) (nI b) (nI n) (nI (2 ^ n)) hI he fm re fa m (nI (pm_mn B (pm_ds n A) (n + 1) i)) (nI i)) (2 ^ n) (fun m => br_t (nI_le (Nat.le_refl _) (xw_W31 hn)) hp) (fun m i hi ih => ?_)
  refine br_f (nI_ge hi (xw_W31 hn)) (yw_in hb (by omega) (hB i hi) ?_)
  have ih' : wY_distance_47 post (nI a) (nI b) (nI n) (nI (2 ^ n)) hI he fm re fa m (nI (pm_mn B (pm_ds n A) (n + 1) (i + 1))) (nI (i + 1)) := ih
  clear ih
  rw [pm_mn_s] at ih'
  have hz := pm_mn_z B (pm_ds n A) (n + 1) i
  have hpc := pm_ds_z n A i
  cases hC : B i
  · rw [if_neg (by rw [hC]; decide)] at ih'
    exact br_t rfl (nm_r (nI_1 i) ih')
  · rw [if_pos hC] at ih'
    refine br_f (by decide) (yw_dist hn ha hi hA ?_)
    by_cases hlt : pm_ds n A i < pm_mn B (pm_ds n A) (n + 1) i
    · rw [if_pos hlt] at ih'
      exact br_f (nI_ge hlt (by omega)) (nm_r (nI_1 i) ih')
    · rw [if_neg hlt] at ih'
      exact br_t (nI_le (by omega) (by omega)) (nm_r (nI_1 i) ih')
theorem pm_mx_s (C : Nat → Bool) (D : Nat → Nat) (m : Nat) : pm_mx C D (m + 1) = if C m = true then (if pm_mx C D m < D m then D m else pm_mx C D m) else pm_mx C D m := rfl
theorem pm_mx_z (C : Nat → Bool) (D : Nat → Nat) {z : Nat} (h : ∀ i, D i ≤ z) : ∀ m, pm_mx C D m ≤ z := by
  intro m
  induction m with
  | zero => exact Nat.zero_le z
  | succ m ih =>
    have h1 := h m
    rw [pm_mx_s]; split <;> (try split) <;> omega
theorem ys_reach {post : Int32 → Prop} {A B : Nat → Bool} {a b : Nat} (hn : n < 7) (ha : a < 3) (hb : b < 3) (hA : ∀ w, w < 2 ^ n → he (64 * a + w) = bi_I (A w)) (hB : ∀ w, w < 2 ^ n → he (64 * b + w) = bi_I (B w)) (hp : post (nI (pm_mx B (pm_ds n A) (2 ^ n)))) : ∃ m, wY_reach_42 post (nI a) (nI b) (nI n) (nI (2 ^ n)) hI he fm re fa m 0 0 := by
  have hW := bb_W n hn
  refine xl_up (fun m i => wY_reach_42 post (nI a) (nI b) (nI n) (nI (2 ^ n)) hI he fm re fa m (nI (pm_mx B (pm_ds n A) i)) (nI i)) (2 ^ n) (fun m => br_t (nI_le (Nat.le_refl _) (xw_W31 hn)) hp) (fun m i hi ih => ?_)
  refine br_f (nI_ge hi (xw_W31 hn)) (yw_in hb (by omega) (hB i hi) ?_)
  have ih' : wY_reach_42 post (nI a) (nI b) (nI n) (nI (2 ^ n)) hI he fm re fa m (nI (pm_mx B (pm_ds n A) (i + 1))) (nI (i + 1)) := ih
  clear ih
  rw [pm_mx_s] at ih'
  have hz := pm_mx_z B (pm_ds n A) (pm_ds_z n A) i
  have hpc := pm_ds_z n A i
  cases hC : B i
  · rw [if_neg (by rw [hC]; decide)] at ih'
    exact br_t rfl (nm_r (nI_1 i) ih')
  · rw [if_pos hC] at ih'
    refine br_f (by decide) (yw_dist hn ha hi hA ?_)
    by_cases hlt : pm_mx B (pm_ds n A) i < pm_ds n A i
    · rw [if_pos hlt] at ih'
      exact br_f (nI_ge hlt (by omega)) (nm_r (nI_1 i) ih')
    · rw [if_neg hlt] at ih'
      exact br_t (nI_le (by omega) (by omega)) (nm_r (nI_1 i) ih')
theorem ys_matters {post : Int32 → Prop} {B : Nat → Bool} {b v : Nat} (hn : n < 7) (hb : b < 3) (hv : v < n) (hB : ∀ w, w < 2 ^ n → he (64 * b + w) = bi_I (B w)) (hp : post (bi_I (pm_ex (fun w => B w && !B (w ^^^ 2 ^ v)) (2 ^ n)))) : ∃ m, wY_matters_23 post (nI b) (nI v) (nI n) (nI (2 ^ n)) hI he fm re fa m 0 := by
  have hW := bb_W n hn
  refine xl_find (fun w => B w && !B (w ^^^ 2 ^ v)) (fun m i => wY_matters_23 post (nI b) (nI v) (nI n) (nI (2 ^ n)) hI he fm re fa m (nI i)) (2 ^ n) ?_ ?_
  · intro hf m
    rw [hf] at hp
    exact br_t (nI_le (Nat.le_refl _) (xw_W31 hn)) hp
  · intro m i hi k1 k2
    have k1' : (B i && !B (i ^^^ 2 ^ v)) = false → wY_matters_23 post (nI b) (nI v) (nI n) (nI (2 ^ n)) hI he fm re fa m (nI (i + 1)) := k1
    have k2' : (B i && !B (i ^^^ 2 ^ v)) = true → pm_ex (fun w => B w && !B (w ^^^ 2 ^ v)) (2 ^ n) = true := k2
    clear k1 k2
    have hx : i ^^^ 2 ^ v < 2 ^ n := pm_xlt hi (pm_plt hv)
    refine br_f (nI_ge hi (xw_W31 hn)) (yw_in hb (by omega) (hB i hi) ?_)
    cases hc : B i
    · exact br_t rfl (nm_r (nI_1 i) (k1' (by rw [hc]; rfl)))
    · refine br_f (by decide) ?_
      rw [bi_xor i (by omega)]
      refine yw_in hb (by omega) (hB _ hx) ?_
      cases hq : B (i ^^^ 2 ^ v)
      · refine br_t rfl ?_
        rw [k2' (by rw [hc, hq]; rfl)] at hp
        exact hp
      · exact br_f (by decide) (nm_r (nI_1 i) (k1' (by rw [hq]; simp)))
end
end
section
/-! the reference's defined and primes -/
section
variable {n h : Nat} {hI : Int32} {he fm re fa : Nat → Int32}
theorem yt_76 {post : Int32 → Prop} {J39 J51 : Int32 → Prop} {B : Nat → Bool} {b v i j : Nat} {c : Bool} {x3 : Int32} (hn : n < 7) (hb : b < 3) (hv : v < n) (hi : i < 2 ^ n) (hj : j < 2 ^ n) (hB : ∀ w, w < 2 ^ n → he (64 * b + w) = bi_I (B w)) (kn : (((B i && B j) && c) && (Nat.testBit i v != Nat.testBit j v)) = false → J51 (nI (j + 1))) (kf : (((B i && B j) && c) && (Nat.testBit i v != Nat.testBit j v)) = true → post 0) : wY_defined_76 post J39 J51 (nI b) (nI v) x3 (nI i) (nI j) (bi_I c) (nI n) (nI (2 ^ n)) hI he fm re fa := by
  have hW := bb_W n hn
  refine yw_in hb (by omega) (hB i hi) ?_
  cases h1 : B i
  · exact br_t rfl (nm_r (nI_1 j) (kn (by rw [h1]; rfl)))
  · refine br_f (by decide) (yw_in hb (by omega) (hB j hj) ?_)
    cases h2 : B j
    · exact br_t rfl (nm_r (nI_1 j) (kn (by rw [h2]; simp)))
    · refine br_f (by decide) ?_
      cases c
      · exact br_t rfl (nm_r (nI_1 j) (kn (by simp)))
      · refine br_f (by decide) (yw_val (by omega) (by omega) (yw_val (by omega) (by omega) ?_))
        by_cases h3 : Nat.testBit i v = Nat.testBit j v
        · exact br_t ((bi_eq _ _).mpr h3) (nm_r (nI_1 j) (kn (by rw [h3]; simp)))
        · exact br_f (fun z => h3 ((bi_eq _ _).mp z)) (kf (by
            rw [h1, h2]
            revert h3
            cases Nat.testBit i v <;> cases Nat.testBit j v <;> simp))
theorem ys_defined {post : Int32 → Prop} {B : Nat → Bool} {b v s : Nat} (hn : n < 7) (hb : b < 3) (hv : v < n) (hs : s < 2 ^ n) (hB : ∀ w, w < 2 ^ n → he (64 * b + w) = bi_I (B w)) (hp : post (bi_I (!pm_ex (fun u => pm_ex (fun w => ((B u && B w) && decide (u &&& s = w &&& s)) && (Nat.testBit u v != Nat.testBit w v)) (2 ^ n)) (2 ^ n)))) : ∃ m, wY_defined_39 post (nI b) (nI v) (nI s) (nI n) (nI (2 ^ n)) hI he fm re fa m 0 := by
  have hW := bb_W n hn
  refine xl_find (fun u => pm_ex (fun w => ((B u && B w) && decide (u &&& s = w &&& s)) && (Nat.testBit u v != Nat.testBit w v)) (2 ^ n)) (fun m i => wY_defined_39 post (nI b) (nI v) (nI s) (nI n) (nI (2 ^ n)) hI he fm re fa m (nI i)) (2 ^ n) ?_ ?_
  · intro hf m
    rw [hf] at hp
    exact br_t (nI_le (Nat.le_refl _) (xw_W31 hn)) hp
  · intro m i hi k1 k2
    refine br_f (nI_ge hi (xw_W31 hn)) ?_
    refine xl_find (fun w => ((B i && B w) && decide (i &&& s = w &&& s)) && (Nat.testBit i v != Nat.testBit w v)) (fun m' j => wY_defined_51 post (wY_defined_39 post (nI b) (nI v) (nI s) (nI n) (nI (2 ^ n)) hI he fm re fa m) (nI b) (nI v) (nI s) (nI i) (nI n) (nI (2 ^ n)) hI he fm re fa m' (nI j)) (2 ^ n) ?_ ?_
    · intro hf m'
      exact br_t (nI_le (Nat.le_refl _) (xw_W31 hn)) (nm_r (nI_1 i) (k1 hf))
    · intro m' j hj q1 q2
      refine br_f (nI_ge hj (xw_W31 hn)) ?_
      have ha : i &&& s < 2 ^ n := Nat.lt_of_le_of_lt Nat.and_le_left hi
      have hc : j &&& s < 2 ^ n := Nat.lt_of_le_of_lt Nat.and_le_left hj
      have kf : (((B i && B j) && decide (i &&& s = j &&& s)) && (Nat.testBit i v != Nat.testBit j v)) = true → post 0 := fun z => by
        rw [k2 (q2 z)] at hp
        exact hp
      by_cases he : i &&& s = j &&& s
      · refine br_t (by rw [nx_and, nx_and, he]) ?_
        rw [decide_eq_true he] at kf
        refine yt_76 (c := true) hn hb hv hi hj hB (fun z => q1 ?_) kf
        show (((B i && B j) && decide (i &&& s = j &&& s)) && (Nat.testBit i v != Nat.testBit j v)) = false
        rw [decide_eq_true he]; exact z
      · refine br_f (fun z => he ?_) ?_
        · rw [nx_and, nx_and] at z
          exact (nI_eq (by omega) (by omega)).mp z
        · rw [decide_eq_false he] at kf
          refine yt_76 (c := false) hn hb hv hi hj hB (fun z => q1 ?_) kf
          show (((B i && B j) && decide (i &&& s = j &&& s)) && (Nat.testBit i v != Nat.testBit j v)) = false
          rw [decide_eq_false he]; exact z
theorem yw_inside {post : Int32 → Prop} {B : Nat → Bool} {b f c : Nat} (hn : n < 7) (hb : b < 3) (hf : f < 64) (hc : c < 64) (hB : ∀ w, w < 2 ^ n → he (64 * b + w) = bi_I (B w)) (hp : post (bi_I (pq_iy n f c B))) : wpY_inside post (nI n, nI (2 ^ n), hI, he, fm, re, fa) (nI b) (nI f) (nI c) := by
  have hW := bb_W n hn
  unfold pq_iy at hp
  refine xl_find (fun x => decide (x &&& f = c) && !B x) (fun m i => wY_inside_3 post (nI b) (nI f) (nI c) (nI n) (nI (2 ^ n)) hI he fm re fa m (nI i)) (2 ^ n) ?_ ?_
  · intro hq m
    rw [hq] at hp
    exact br_t (nI_le (Nat.le_refl _) (xw_W31 hn)) hp
  · intro m i hi k1 k2
    have k1' : (decide (i &&& f = c) && !B i) = false → wY_inside_3 post (nI b) (nI f) (nI c) (nI n) (nI (2 ^ n)) hI he fm re fa m (nI (i + 1)) := k1
    have k2' : (decide (i &&& f = c) && !B i) = true → pm_ex (fun x => decide (x &&& f = c) && !B x) (2 ^ n) = true := k2
    clear k1 k2
    have ha : i &&& f < 2 ^ n := Nat.lt_of_le_of_lt Nat.and_le_left hi
    refine br_f (nI_ge hi (xw_W31 hn)) ?_
    by_cases he : i &&& f = c
    · refine br_t (by rw [nx_and, he]) (yw_in hb (by omega) (hB i hi) ?_)
      cases hq : B i
      · refine br_t rfl ?_
        rw [k2' (by rw [decide_eq_true he, hq]; rfl)] at hp
        exact hp
      · exact br_f (by decide) (nm_r (nI_1 i) (k1' (by rw [hq]; simp)))
    · refine br_f (fun z => he ?_) (nm_r (nI_1 i) (k1' (by rw [decide_eq_false he]; rfl)))
      rw [nx_and] at z
      exact (nI_eq (by omega) (by omega)).mp z
theorem yw_prime {post : Int32 → Prop} {B : Nat → Bool} {b f w : Nat} (hn : n < 7) (hb : b < 3) (hf : f < 64) (hw : w < 64) (hB : ∀ w, w < 2 ^ n → he (64 * b + w) = bi_I (B w)) (hp : post (bi_I (pq_py n f w B))) : wpY_prime post (nI n, nI (2 ^ n), hI, he, fm, re, fa) (nI b) (nI f) (nI w) := by
  have hW := bb_W n hn
  unfold pq_py at hp
  refine yw_inside hn hb hf hw hB ?_
  cases h0 : pq_iy n f w B
  · rw [h0] at hp
    exact br_t rfl hp
  · rw [h0, Bool.true_and] at hp
    refine br_f (by decide) ?_
    refine xl_find (fun v => decide (pq_fv f v ≠ f) && pq_iy n (pq_fv f v) (w &&& pq_fv f v) B) (fun m i => wY_prime_15 post (nI b) (nI f) (nI w) (nI n) (nI (2 ^ n)) hI he fm re fa m (nI i)) n ?_ ?_
    · intro hq m
      rw [hq] at hp
      exact br_t (nI_le (Nat.le_refl _) (by omega)) hp
    · intro m i hi k1 k2
      have k1' : (decide (pq_fv f i ≠ f) && pq_iy n (pq_fv f i) (w &&& pq_fv f i) B) = false → wY_prime_15 post (nI b) (nI f) (nI w) (nI n) (nI (2 ^ n)) hI he fm re fa m (nI (i + 1)) := k1
      have k2' : (decide (pq_fv f i ≠ f) && pq_iy n (pq_fv f i) (w &&& pq_fv f i) B) = true → pm_ex (fun v => decide (pq_fv f v ≠ f) && pq_iy n (pq_fv f v) (w &&& pq_fv f v) B) n = true := k2
      clear k1 k2
      have hfv := bi_fv f hf i (by omega)
      have ha : w &&& pq_fv f i < 64 := Nat.lt_of_le_of_lt Nat.and_le_left hw
      refine br_f (nI_ge hi (by omega)) (nm_r hfv.1 ?_)
      by_cases he : pq_fv f i = f
      · exact br_t (congrArg nI he) (nm_r (nI_1 i) (k1' (by rw [decide_eq_false (fun z => z he)]; rfl)))
      · refine br_f (fun z => he ((nI_eq (by omega) (by omega)).mp z)) ?_
        rw [nx_and]
        refine yw_inside hn hb hfv.2 ha hB ?_
        cases hq : pq_iy n (pq_fv f i) (w &&& pq_fv f i) B
        · exact br_t rfl (nm_r (nI_1 i) (k1' (by rw [hq]; simp)))
        · refine br_f (by decide) ?_
          rw [k2' (by rw [hq, decide_eq_true he]; rfl)] at hp
          exact hp
theorem ys_primes {post : Int32 → Prop} {B : Nat → Bool} {b : Nat} (hn : n < 7) (hb : b < 3) (hB : ∀ w, w < 2 ^ n → he (64 * b + w) = bi_I (B w)) (hp : post (nI (pm_sm (fun f => pm_cn (fun w => decide (w &&& f = w) && pq_py n f w B) (2 ^ n)) (2 ^ n)))) : ∃ m, wY_primes_14 post (nI b) (nI n) (nI (2 ^ n)) hI he fm re fa m 0 0 := by
  have hW := bb_W n hn
  refine xl_up (fun m i => wY_primes_14 post (nI b) (nI n) (nI (2 ^ n)) hI he fm re fa m (nI (pm_sm (fun f => pm_cn (fun w => decide (w &&& f = w) && pq_py n f w B) (2 ^ n)) i)) (nI i)) (2 ^ n) (fun m => br_t (nI_le (Nat.le_refl _) (xw_W31 hn)) hp) (fun m i hi ih => ?_)
  refine br_f (nI_ge hi (xw_W31 hn)) ?_
  have ih' : wY_primes_14 post (nI b) (nI n) (nI (2 ^ n)) hI he fm re fa m (nI (pm_sm (fun f => pm_cn (fun w => decide (w &&& f = w) && pq_py n f w B) (2 ^ n)) i + pm_cn (fun w => decide (w &&& i = w) && pq_py n i w B) (2 ^ n))) (nI (i + 1)) := ih
  clear ih
  generalize pm_sm (fun f => pm_cn (fun w => decide (w &&& f = w) && pq_py n f w B) (2 ^ n)) i = T at ih' ⊢
  have key := xl_up (fun m' j => wY_primes_25 post (wY_primes_14 post (nI b) (nI n) (nI (2 ^ n)) hI he fm re fa m) (nI b) (nI i) (nI n) (nI (2 ^ n)) hI he fm re fa m' (nI (T + pm_cn (fun w => decide (w &&& i = w) && pq_py n i w B) j)) (nI j)) (2 ^ n) (fun m' => br_t (nI_le (Nat.le_refl _) (xw_W31 hn)) (nm_r (nI_1 i) ih')) (fun m' j hj jh => by
    refine br_f (nI_ge hj (xw_W31 hn)) ?_
    have jh' : wY_primes_25 post (wY_primes_14 post (nI b) (nI n) (nI (2 ^ n)) hI he fm re fa m) (nI b) (nI i) (nI n) (nI (2 ^ n)) hI he fm re fa m' (nI (T + pm_cn (fun w => decide (w &&& i = w) && pq_py n i w B) (j + 1))) (nI (j + 1)) := jh
    clear jh
    have ha : j &&& i < 2 ^ n := Nat.lt_of_le_of_lt Nat.and_le_left hj
    by_cases hq : j &&& i = j
    · refine br_t (by rw [nx_and, hq]) (yw_prime hn hb (by omega) (by omega) hB ?_)
      cases h2 : pq_py n i j B
      · have e1 : pm_cn (fun w => decide (w &&& i = w) && pq_py n i w B) (j + 1) = pm_cn (fun w => decide (w &&& i = w) && pq_py n i w B) j := if_neg (by
          show ¬ (decide (j &&& i = j) && pq_py n i j B) = true
          rw [h2]; simp)
        rw [e1] at jh'
        exact br_t rfl (nm_r (nI_1 j) jh')
      · have e1 : pm_cn (fun w => decide (w &&& i = w) && pq_py n i w B) (j + 1) = pm_cn (fun w => decide (w &&& i = w) && pq_py n i w B) j + 1 := if_pos (by
          show (decide (j &&& i = j) && pq_py n i j B) = true
          rw [h2, decide_eq_true hq]; rfl)
        rw [e1] at jh'
        exact br_f (by decide) (nm_r (nI_1 _) (nm_r (nI_1 j) jh'))
    · have e1 : pm_cn (fun w => decide (w &&& i = w) && pq_py n i w B) (j + 1) = pm_cn (fun w => decide (w &&& i = w) && pq_py n i w B) j := if_neg (by
        show ¬ (decide (j &&& i = j) && pq_py n i j B) = true
        rw [decide_eq_false hq]; simp)
      rw [e1] at jh'
      refine br_f (fun z => hq ?_) (nm_r (nI_1 j) jh')
      rw [nx_and] at z
      exact (nI_eq (by omega) (by omega)).mp z)
  exact key
end
end
section
/-! the class's loops in its public methods; what is good -/
section
variable {n h : Nat} {e : Int64} {hI : Int32} {be fo on : Nat → Int64} {he fm re fa : Nat → Int32}
theorem xq_update {post : Int32 → SX → Prop} {B F : Nat → Bool} {b : Nat} (hn : n < 7) (hb : b < 3) (hB : be b = bb_L B (2 ^ n)) (hp : post (nI (pm_cn (fun u => pm_ex (fun w => B w && (F u && !pu_nr F (2 ^ n) u w)) (2 ^ n)) (2 ^ n))) (nI n, nI (2 ^ n), e, hI, vp_updL be b (bb_L (fun u => pm_ex (fun w => B w && (F u && !pu_nr F (2 ^ n) u w)) (2 ^ n)) (2 ^ n)), fo, on)) : ∃ m, wX_update_31 post (nI b) (bb_L F (2 ^ n)) (nI n) (nI (2 ^ n)) e hI be fo on m 0 0 := by
  have hW := bb_W n hn
  have key := xl_up (fun m i => wX_update_31 post (nI b) (bb_L F (2 ^ n)) (nI n) (nI (2 ^ n)) e hI be fo on m (bb_L (fun u => pm_ex (fun w => B w && (F u && !pu_nr F (2 ^ n) u w)) i) (2 ^ n)) (nI i)) (2 ^ n) (fun m => br_t (nI_le (Nat.le_refl _) (xw_W31 hn)) (xw_become hn hb hp)) (fun m i hi ih => by
    refine br_f (nI_ge hi (xw_W31 hn)) ⟨vp_in_nI hb (by decide), ?_⟩
    rw [show be (nI b).toNatClampNeg = bb_L B (2 ^ n) by rw [nI_clamp (by omega)]; exact hB]
    refine xw_inL hn hi ?_
    have ih' : wX_update_31 post (nI b) (bb_L F (2 ^ n)) (nI n) (nI (2 ^ n)) e hI be fo on m (bb_L (fun u => pm_ex (fun w => B w && (F u && !pu_nr F (2 ^ n) u w)) i || (B i && (F u && !pu_nr F (2 ^ n) u i))) (2 ^ n)) (nI (i + 1)) := ih
    clear ih
    cases hc : B i
    · refine br_t rfl (nm_r (nI_1 i) ?_)
      rw [bb_Lc (T := fun u => pm_ex (fun w => B w && (F u && !pu_nr F (2 ^ n) u w)) i) (S := fun u => pm_ex (fun w => B w && (F u && !pu_nr F (2 ^ n) u w)) i || (B i && (F u && !pu_nr F (2 ^ n) u i))) (fun u _ => by
        show (pm_ex (fun w => B w && (F u && !pu_nr F (2 ^ n) u w)) i || (B i && (F u && !pu_nr F (2 ^ n) u i))) = _
        rw [hc, Bool.false_and, Bool.or_false])] at ih'
      exact ih'
    · refine br_f (by decide) (xv_lco hn hi (nm_r (bb_Lor hW) (nm_r (nI_1 i) ?_)))
      rw [bb_Lc (T := fun u => pm_ex (fun w => B w && (F u && !pu_nr F (2 ^ n) u w)) i || (F u && !pu_nr F (2 ^ n) u i)) (S := fun u => pm_ex (fun w => B w && (F u && !pu_nr F (2 ^ n) u w)) i || (B i && (F u && !pu_nr F (2 ^ n) u i))) (fun u _ => by
        show (pm_ex (fun w => B w && (F u && !pu_nr F (2 ^ n) u w)) i || (B i && (F u && !pu_nr F (2 ^ n) u i))) = _
        rw [hc, Bool.true_and])] at ih'
      exact ih')
  obtain ⟨m, hm⟩ := key
  refine ⟨m, ?_⟩
  have hm' : wX_update_31 post (nI b) (bb_L F (2 ^ n)) (nI n) (nI (2 ^ n)) e hI be fo on m (bb_L (fun _ => false) (2 ^ n)) (nI 0) := hm
  rw [bb_L0] at hm'
  exact hm'
theorem xq_next {B : Nat → Bool} {b : Nat} {a : Int32} (hn : n < 7) (hb : b < 3) (hB : be b = bb_L B (2 ^ n)) (hY : ∀ w, w < 2 ^ n → he (64 * b + w) = bi_I (B w)) : ∀ d i, i + d = 2 ^ n → ∃ r : Int32, (∀ post : Int32 → Prop, post r → wX_next_12 post (nI b) a (nI n) (nI (2 ^ n)) e hI be fo on (d + 1) (nI i)) ∧ (∀ post : Int32 → Prop, post r → wY_next_12 post (nI b) a (nI n) (nI (2 ^ n)) hI he fm re fa (d + 1) (nI i)) := by
  have hW := bb_W n hn
  intro d
  induction d with
  | zero =>
    intro i hi
    have e1 : i = 2 ^ n := by omega
    rw [e1]
    exact ⟨-2, fun post hp => br_t (nI_le (Nat.le_refl _) (xw_W31 hn)) hp, fun post hp => br_t (nI_le (Nat.le_refl _) (xw_W31 hn)) hp⟩
  | succ d ih =>
    intro i hi
    have hi2 : i < 2 ^ n := by omega
    obtain ⟨r, hX, hYr⟩ := ih (i + 1) (by omega)
    have hbe : be (nI b).toNatClampNeg = bb_L B (2 ^ n) := by rw [nI_clamp (by omega)]; exact hB
    by_cases ha : nI i ≤ a
    · exact ⟨r, fun post hp => br_f (nI_ge hi2 (xw_W31 hn)) (br_t ha (nm_r (nI_1 i) (hX post hp))), fun post hp => br_f (nI_ge hi2 (xw_W31 hn)) (br_t ha (nm_r (nI_1 i) (hYr post hp)))⟩
    · cases hc : B i
      · refine ⟨r, fun post hp => br_f (nI_ge hi2 (xw_W31 hn)) (br_f ha ⟨vp_in_nI hb (by decide), ?_⟩), fun post hp => br_f (nI_ge hi2 (xw_W31 hn)) (br_f ha (yw_in hb (by omega) (hY i hi2) ?_))⟩
        · rw [hbe]
          refine xw_inL hn hi2 ?_
          rw [hc]
          exact br_t rfl (nm_r (nI_1 i) (hX post hp))
        · rw [hc]
          exact br_t rfl (nm_r (nI_1 i) (hYr post hp))
      · refine ⟨nI i, fun post hp => br_f (nI_ge hi2 (xw_W31 hn)) (br_f ha ⟨vp_in_nI hb (by decide), ?_⟩), fun post hp => br_f (nI_ge hi2 (xw_W31 hn)) (br_f ha (yw_in hb (by omega) (hY i hi2) ?_))⟩
        · rw [hbe]
          refine xw_inL hn hi2 ?_
          rw [hc]
          exact br_f (by decide) hp
        · rw [hc]
          exact br_f (by decide) hp
theorem xq_distance {post : Int32 → Prop} {A B : Nat → Bool} {a b : Nat} (hn : n < 7) (hon : ∀ v, v < n → on v = bb_L (fun w => Nat.testBit w v) (2 ^ n)) (ha : a < 3) (hb : b < 3) (hA : be a = bb_L A (2 ^ n)) (hB : be b = bb_L B (2 ^ n)) (hp : post (nI (pm_mn B (pm_ds n A) n (2 ^ n)))) : ∃ m, wX_distance_51 post (nI a) (nI b) (nI n) (nI (2 ^ n)) e hI be fo on m (nI n) 0 := by
  have hW := bb_W n hn
  refine xl_up (fun m i => wX_distance_51 post (nI a) (nI b) (nI n) (nI (2 ^ n)) e hI be fo on m (nI (pm_mn B (pm_ds n A) n i)) (nI i)) (2 ^ n) (fun m => br_t (nI_le (Nat.le_refl _) (xw_W31 hn)) hp) (fun m i hi ih => ?_)
  refine br_f (nI_ge hi (xw_W31 hn)) ⟨vp_in_nI hb (by decide), ?_⟩
  rw [show be (nI b).toNatClampNeg = bb_L B (2 ^ n) by rw [nI_clamp (by omega)]; exact hB]
  refine xw_inL hn hi ?_
  have ih' : wX_distance_51 post (nI a) (nI b) (nI n) (nI (2 ^ n)) e hI be fo on m (nI (pm_mn B (pm_ds n A) n (i + 1))) (nI (i + 1)) := ih
  clear ih
  rw [pm_mn_s] at ih'
  have hz := pm_mn_z B (pm_ds n A) n i
  have hpc := pm_ds_z n A i
  cases hC : B i
  · rw [if_neg (by rw [hC]; decide)] at ih'
    exact br_t rfl (nm_r (nI_1 i) ih')
  · rw [if_pos hC] at ih'
    refine br_f (by decide) ⟨vp_in_nI ha (by decide), ?_⟩
    rw [show be (nI a).toNatClampNeg = bb_L A (2 ^ n) by rw [nI_clamp (by omega)]; exact hA]
    refine xw_dist hn hon hi ?_
    by_cases hlt : pm_ds n A i < pm_mn B (pm_ds n A) n i
    · rw [if_pos hlt] at ih'
      exact br_f (nI_ge hlt (by omega)) (nm_r (nI_1 i) ih')
    · rw [if_neg hlt] at ih'
      exact br_t (nI_le (by omega) (by omega)) (nm_r (nI_1 i) ih')
theorem xq_reach {post : Int32 → Prop} {A B : Nat → Bool} {a b : Nat} (hn : n < 7) (hon : ∀ v, v < n → on v = bb_L (fun w => Nat.testBit w v) (2 ^ n)) (ha : a < 3) (hb : b < 3) (hA : be a = bb_L A (2 ^ n)) (hB : be b = bb_L B (2 ^ n)) (hp : post (nI (pm_mx B (pm_ds n A) (2 ^ n)))) : ∃ m, wX_reach_48 post (nI a) (nI b) (nI n) (nI (2 ^ n)) e hI be fo on m 0 0 := by
  have hW := bb_W n hn
  refine xl_up (fun m i => wX_reach_48 post (nI a) (nI b) (nI n) (nI (2 ^ n)) e hI be fo on m (nI (pm_mx B (pm_ds n A) i)) (nI i)) (2 ^ n) (fun m => br_t (nI_le (Nat.le_refl _) (xw_W31 hn)) hp) (fun m i hi ih => ?_)
  refine br_f (nI_ge hi (xw_W31 hn)) ⟨vp_in_nI hb (by decide), ?_⟩
  rw [show be (nI b).toNatClampNeg = bb_L B (2 ^ n) by rw [nI_clamp (by omega)]; exact hB]
  refine xw_inL hn hi ?_
  have ih' : wX_reach_48 post (nI a) (nI b) (nI n) (nI (2 ^ n)) e hI be fo on m (nI (pm_mx B (pm_ds n A) (i + 1))) (nI (i + 1)) := ih
  clear ih
  rw [pm_mx_s] at ih'
  have hz := pm_mx_z B (pm_ds n A) (pm_ds_z n A) i
  have hpc := pm_ds_z n A i
  cases hC : B i
  · rw [if_neg (by rw [hC]; decide)] at ih'
    exact br_t rfl (nm_r (nI_1 i) ih')
  · rw [if_pos hC] at ih'
    refine br_f (by decide) ⟨vp_in_nI ha (by decide), ?_⟩
    rw [show be (nI a).toNatClampNeg = bb_L A (2 ^ n) by rw [nI_clamp (by omega)]; exact hA]
    refine xw_dist hn hon hi ?_
    by_cases hlt : pm_mx B (pm_ds n A) i < pm_ds n A i
    · rw [if_pos hlt] at ih'
      exact br_f (nI_ge hlt (by omega)) (nm_r (nI_1 i) ih')
    · rw [if_neg hlt] at ih'
      exact br_t (nI_le (by omega) (by omega)) (nm_r (nI_1 i) ih')
theorem xq_defined {post : Int32 → Prop} {S T : Nat → Bool} {s : Nat} (hn : n < 7) (hs : s < 2 ^ n) (hp : post (bi_I (!pm_ex (fun w => S w && pm_ex (fun x => T x && decide (x &&& s = w &&& s)) (2 ^ n)) (2 ^ n)))) : ∃ m, wX_defined_69 post (nI s) (bb_L S (2 ^ n)) (bb_L T (2 ^ n)) (nI n) (nI (2 ^ n)) e hI be fo on m 0 := by
  have hW := bb_W n hn
  refine xl_find (fun w => S w && pm_ex (fun x => T x && decide (x &&& s = w &&& s)) (2 ^ n)) (fun m i => wX_defined_69 post (nI s) (bb_L S (2 ^ n)) (bb_L T (2 ^ n)) (nI n) (nI (2 ^ n)) e hI be fo on m (nI i)) (2 ^ n) ?_ ?_
  · intro hf m
    rw [hf] at hp
    exact br_t (nI_le (Nat.le_refl _) (xw_W31 hn)) hp
  · intro m i hi k1 k2
    have k1' : (S i && pm_ex (fun x => T x && decide (x &&& s = i &&& s)) (2 ^ n)) = false → wX_defined_69 post (nI s) (bb_L S (2 ^ n)) (bb_L T (2 ^ n)) (nI n) (nI (2 ^ n)) e hI be fo on m (nI (i + 1)) := k1
    have k2' : (S i && pm_ex (fun x => T x && decide (x &&& s = i &&& s)) (2 ^ n)) = true → pm_ex (fun w => S w && pm_ex (fun x => T x && decide (x &&& s = w &&& s)) (2 ^ n)) (2 ^ n) = true := k2
    clear k1 k2
    refine br_f (nI_ge hi (xw_W31 hn)) (xw_inL hn hi ?_)
    cases hc : S i
    · exact br_t rfl (nm_r (nI_1 i) (k1' (by rw [hc]; rfl)))
    · refine br_f (by decide) (xv_agree hn hi hs ?_)
      cases hq : pm_ex (fun x => T x && decide (x &&& s = i &&& s)) (2 ^ n)
      · exact br_t rfl (nm_r (nI_1 i) (k1' (by rw [hq]; simp)))
      · refine br_f (by decide) ?_
        rw [k2' (by rw [hq, hc]; rfl)] at hp
        exact hp
theorem xq_primes {post : Int32 → Prop} {B : Nat → Bool} {b : Nat} (hn : n < 7) (hon : ∀ v, v < n → on v = bb_L (fun w => Nat.testBit w v) (2 ^ n)) (hb : b < 3) (hB : be b = bb_L B (2 ^ n)) (hp : post (nI (pm_sm (fun o => pm_cn (pq_px n o B n) (2 ^ n)) (2 ^ n)))) : ∃ m, wX_primes_14 post (nI b) (nI n) (nI (2 ^ n)) e hI be fo on m 0 0 := by
  have hW := bb_W n hn
  refine xl_up (fun m i => wX_primes_14 post (nI b) (nI n) (nI (2 ^ n)) e hI be fo on m (nI (pm_sm (fun o => pm_cn (pq_px n o B n) (2 ^ n)) i)) (nI i)) (2 ^ n) (fun m => br_t (nI_le (Nat.le_refl _) (xw_W31 hn)) hp) (fun m i hi ih => ?_)
  refine br_f (nI_ge hi (xw_W31 hn)) ⟨vp_in_nI hb (by decide), ?_⟩
  rw [show be (nI b).toNatClampNeg = bb_L B (2 ^ n) by rw [nI_clamp (by omega)]; exact hB]
  exact xv_pop hn hon hi (nm_r (nI_add _ _) (nm_r (nI_1 i) ih))
/-! good and bad numbers -/
def bx_bad (N : Nat) (x : Int32) : Prop := x < 0 ∨ nI N ≤ x
theorem bx_c (x : Int32) (N : Nat) (hN : N < 2 ^ 31) : bx_bad N x ∨ ∃ j, j < N ∧ x = nI j := by
  rcases pk_ix x hN with z | z | z
  · exact Or.inl (Or.inl z)
  · exact Or.inl (Or.inr z)
  · exact Or.inr z
theorem xb_bad {post : Int32 → Prop} {u : SX} {x : Int32} (hx : bx_bad 3 x) (hp : post 0) : wpX_isBelief post u x := by
  obtain ⟨q1, q2, q3, q4, q5, q6, q7⟩ := u
  by_cases h0 : x < 0
  · exact br_t h0 hp
  · rcases hx with z | z
    · exact absurd z h0
    · exact br_f h0 (br_t z hp)
theorem xb_ok {post : Int32 → Prop} {u : SX} {j : Nat} (hj : j < 3) (hp : post 1) : wpX_isBelief post u (nI j) := by
  obtain ⟨q1, q2, q3, q4, q5, q6, q7⟩ := u
  exact br_f (nI_pos (by omega)) (br_f (nI_ge (b := 3) hj (by decide)) hp)
theorem xb_vbad {post : Int32 → Prop} {x : Int32} (hx : bx_bad n x) (hp : post 0) : wpX_isVariable post (nI n, nI (2 ^ n), e, hI, be, fo, on) x := by
  by_cases h0 : x < 0
  · exact br_t h0 hp
  · rcases hx with z | z
    · exact absurd z h0
    · exact br_f h0 (br_t z hp)
theorem xb_vok {post : Int32 → Prop} {j : Nat} (hn : n < 7) (hj : j < n) (hp : post 1) : wpX_isVariable post (nI n, nI (2 ^ n), e, hI, be, fo, on) (nI j) :=
  br_f (nI_pos (by omega)) (br_f (nI_ge hj (by omega)) hp)
theorem xb_wbad {post : Int32 → Prop} {x : Int32} (hx : bx_bad (2 ^ n) x) (hp : post 0) : wpX_isWorld post (nI n, nI (2 ^ n), e, hI, be, fo, on) x := by
  by_cases h0 : x < 0
  · exact br_t h0 hp
  · rcases hx with z | z
    · exact absurd z h0
    · exact br_f h0 (br_t z hp)
theorem xb_wok {post : Int32 → Prop} {j : Nat} (hn : n < 7) (hj : j < 2 ^ n) (hp : post 1) : wpX_isWorld post (nI n, nI (2 ^ n), e, hI, be, fo, on) (nI j) := by
  have hW := bb_W n hn
  exact br_f (nI_pos (by omega)) (br_f (nI_ge hj (xw_W31 hn)) hp)
theorem yb_bad {post : Int32 → Prop} {u : SY} {x : Int32} (hx : bx_bad 3 x) (hp : post 1) : wpY_badBelief post u x := by
  obtain ⟨q1, q2, q3, q4, q5, q6, q7⟩ := u
  by_cases h0 : x < 0
  · exact br_t h0 hp
  · rcases hx with z | z
    · exact absurd z h0
    · exact br_f h0 (br_f (bi_2 z) hp)
theorem yb_ok {post : Int32 → Prop} {u : SY} {j : Nat} (hj : j < 3) (hp : post 0) : wpY_badBelief post u (nI j) := by
  obtain ⟨q1, q2, q3, q4, q5, q6, q7⟩ := u
  exact br_f (nI_pos (by omega)) (br_t (bi_j2 hj) hp)
theorem yb_vbad {post : Int32 → Prop} {x : Int32} (hx : bx_bad n x) (hp : post 1) : wpY_badVar post (nI n, nI (2 ^ n), hI, he, fm, re, fa) x := by
  by_cases h0 : x < 0
  · exact br_t h0 hp
  · rcases hx with z | z
    · exact absurd z h0
    · exact br_f h0 (br_f (Int32.not_lt.mpr z) hp)
theorem yb_vok {post : Int32 → Prop} {j : Nat} (hn : n < 7) (hj : j < n) (hp : post 0) : wpY_badVar post (nI n, nI (2 ^ n), hI, he, fm, re, fa) (nI j) :=
  br_f (nI_pos (by omega)) (br_t (nI_lt hj (by omega)) hp)
theorem yb_wbad {post : Int32 → Prop} {x : Int32} (hx : bx_bad (2 ^ n) x) (hp : post 1) : wpY_badWorld post (nI n, nI (2 ^ n), hI, he, fm, re, fa) x := by
  by_cases h0 : x < 0
  · exact br_t h0 hp
  · rcases hx with z | z
    · exact absurd z h0
    · exact br_f h0 (br_t z hp)
theorem yb_wok {post : Int32 → Prop} {j : Nat} (hn : n < 7) (hj : j < 2 ^ n) (hp : post 0) : wpY_badWorld post (nI n, nI (2 ^ n), hI, he, fm, re, fa) (nI j) := by
  have hW := bb_W n hn
  exact br_f (nI_pos (by omega)) (br_f (nI_ge hj (xw_W31 hn)) (br_t (nI_lt (b := 64) (by omega) (by decide)) hp))
theorem xw_put {post : Int32 → SX → Prop} {x : Int64} (hh : h < 8) (hp : post (nI (h + 1)) (nI n, nI (2 ^ n), e, nI (h + 1), be, vp_updL fo h x, on)) : wpX_putOn post (nI n, nI (2 ^ n), e, nI h, be, fo, on) x :=
  ⟨vp_in_nI hh (by decide), nm_r (congrArg (fun k => vp_updL fo k x) (nI_clamp (show h < 2 ^ 31 by omega))) (nm_r (nI_1 h) hp)⟩
theorem xw_take {post : Int64 → SX → Prop} (hh : h < 8) (hp : post (fo h) (nI n, nI (2 ^ n), e, nI h, be, fo, on)) : wpX_takeOff post (nI n, nI (2 ^ n), e, nI (h + 1), be, fo, on) :=
  nm_r (nI_pred h) ⟨vp_in_nI hh (by decide), Eq.mpr (congrArg (fun k => post (fo k) (nI n, nI (2 ^ n), e, nI h, be, fo, on)) (nI_clamp (show h < 2 ^ 31 by omega))) hp⟩
end
end
section
/-! the relation: the reference's sets of worlds are the bits of the class's longs -/
def rl_R (n h : Nat) (B F : Nat → Nat → Bool) (be fo on : Nat → Int64) (he fm : Nat → Int32) : Prop :=
  (2 ≤ n ∧ n < 7 ∧ h ≤ 8) ∧ (∀ b, b < 3 → be b = bb_L (B b) (2 ^ n)) ∧ (∀ j, j < h → fo j = bb_L (F j) (2 ^ n)) ∧ (∀ v, v < n → on v = bb_L (fun w => Nat.testBit w v) (2 ^ n)) ∧ (∀ b, b < 3 → ∀ w, w < 2 ^ n → he (64 * b + w) = bi_I (B b w)) ∧ (∀ j, j < h → ∀ w, w < 2 ^ n → fm (64 * j + w) = bi_I (F j w))
/-- the relation at the head of a turn -/
def i_Rel (k : Nat) (u : SX) (v : SY) : Prop := ∃ (n h : Nat) (B F : Nat → Nat → Bool) (be fo on : Nat → Int64) (he fm re fa : Nat → Int32), rl_R n h B F be fo on he fm ∧ u = (nI n, nI (2 ^ n), bb_L (fun _ => true) (2 ^ n), nI h, be, fo, on) ∧ v = (nI n, nI (2 ^ n), nI h, he, fm, re, fa)
theorem i_up {k : Nat} {u : SX} {v : SY} (h : i_Rel k u v) : i_Rel (k + 4) u v := h
section
variable {n h k : Nat} {B F : Nat → Nat → Bool} {be fo on : Nat → Int64} {he fm re fa : Nat → Int32}
theorem rl_mk (I : rl_R n h B F be fo on he fm) : i_Rel k (nI n, nI (2 ^ n), bb_L (fun _ => true) (2 ^ n), nI h, be, fo, on) (nI n, nI (2 ^ n), nI h, he, fm, re, fa) := ⟨n, h, B, F, be, fo, on, he, fm, re, fa, I, rfl, rfl⟩
theorem rl_pop (I : rl_R n (h + 1) B F be fo on he fm) : rl_R n h B F be fo on he fm := by
  obtain ⟨⟨h2, h7, h8⟩, hbe, hfo, hon, hhe, hfm⟩ := I
  exact ⟨⟨h2, h7, by omega⟩, hbe, fun j hj => hfo j (by omega), hon, hhe, fun j hj => hfm j (by omega)⟩
theorem rl_set {b : Nat} {R : Nat → Bool} (I : rl_R n h B F be fo on he fm) (hb : b < 3) : rl_R n h (fun b' => if b' = b then R else B b') F (vp_updL be b (bb_L R (2 ^ n))) fo on (fa_F he (64 * b) (fun w => bi_I (R w)) (2 ^ n)) fm := by
  obtain ⟨⟨h2, h7, h8⟩, hbe, hfo, hon, hhe, hfm⟩ := I
  have hW := bb_W n h7
  refine ⟨⟨h2, h7, h8⟩, fun b' hb' => ?_, hfo, hon, fun b' hb' w hw => ?_, hfm⟩
  · show vp_updL be b (bb_L R (2 ^ n)) b' = bb_L (if b' = b then R else B b') (2 ^ n)
    by_cases e : b' = b
    · subst e; rw [if_pos rfl, pk_uLs]
    · rw [if_neg e, pk_uLn e]; exact hbe b' hb'
  · show fa_F he (64 * b) (fun w => bi_I (R w)) (2 ^ n) (64 * b' + w) = bi_I ((if b' = b then R else B b') w)
    by_cases e : b' = b
    · subst e; rw [if_pos rfl]; exact fa_in hw
    · rw [if_neg e, fa_out (by omega)]; exact hhe b' hb' w hw
theorem rl_push {R : Nat → Bool} (I : rl_R n h B F be fo on he fm) (hh : h < 8) : rl_R n (h + 1) B (fun j => if j = h then R else F j) be (vp_updL fo h (bb_L R (2 ^ n))) on he (fa_F fm (64 * h) (fun w => bi_I (R w)) (2 ^ n)) := by
  obtain ⟨⟨h2, h7, h8⟩, hbe, hfo, hon, hhe, hfm⟩ := I
  have hW := bb_W n h7
  refine ⟨⟨h2, h7, by omega⟩, hbe, fun j hj => ?_, hon, hhe, fun j hj w hw => ?_⟩
  · show vp_updL fo h (bb_L R (2 ^ n)) j = bb_L (if j = h then R else F j) (2 ^ n)
    by_cases e : j = h
    · subst e; rw [if_pos rfl, pk_uLs]
    · rw [if_neg e, pk_uLn e]; exact hfo j (by omega)
  · show fa_F fm (64 * h) (fun w => bi_I (R w)) (2 ^ n) (64 * j + w) = bi_I ((if j = h then R else F j) w)
    by_cases e : j = h
    · subst e; rw [if_pos rfl]; exact fa_in hw
    · rw [if_neg e, fa_out (by omega)]; exact hfm j (by omega) w hw
/-! what the two sides leave is the same set -/
theorem rl_beq (b : Bool) : (b == true) = b := by cases b <;> rfl
theorem rl_bne (b : Bool) : (b == false) = !b := by cases b <;> rfl
theorem rl_rev {A G : Nat → Bool} (hn : n < 7) : bb_L (pm_nr G (fun w => pm_ds n A w + pm_ds n A w) (2 * (n + 1)) (2 ^ n)) (2 ^ n) = bb_L (fun w => G w && decide (pm_ds n A w = pm_mn (fun w => G w == true) (fun w => pm_ds n A w) 1000 (2 ^ n))) (2 ^ n) := bb_Lc (fun w hw => by
  show _ = (G w && decide (pm_ds n A w = pm_mn (fun w => G w == true) (fun w => pm_ds n A w) 1000 (2 ^ n)))
  rw [pm_mn_c (C := fun w => G w == true) (C' := G) (D' := fun w => pm_ds n A w) (fun i _ => rl_beq (G i)) (fun _ _ => rfl)]
  exact pm_near (fun i _ => by have := pm_ds_z n A i; omega) (fun i _ => by have := pm_ds_z n A i; omega) (fun i j _ _ => by omega) hw)
theorem rl_mrg {A C G : Nat → Bool} (hn : n < 7) : bb_L (pm_nr G (fun w => pm_ds n A w + pm_ds n C w) (2 * (n + 1)) (2 ^ n)) (2 ^ n) = bb_L (fun w => G w && decide (pm_ds n A w + pm_ds n C w = pm_mn (fun w => G w == true) (fun w => pm_ds n A w + pm_ds n C w) 1000 (2 ^ n))) (2 ^ n) := bb_Lc (fun w hw => by
  show _ = (G w && decide (pm_ds n A w + pm_ds n C w = pm_mn (fun w => G w == true) (fun w => pm_ds n A w + pm_ds n C w) 1000 (2 ^ n)))
  rw [pm_mn_c (C := fun w => G w == true) (C' := G) (D' := fun w => pm_ds n A w + pm_ds n C w) (fun i _ => rl_beq (G i)) (fun _ _ => rfl)]
  exact pm_near (E := fun w => pm_ds n A w + pm_ds n C w) (fun i _ => by have h1 := pm_ds_z n A i; have h2 := pm_ds_z n C i; omega) (fun i _ => by have h1 := pm_ds_z n A i; have h2 := pm_ds_z n C i; show pm_ds n A i + pm_ds n C i ≤ 1000; omega) (fun i j _ _ => Iff.rfl) hw)
theorem rl_giv {A G : Nat → Bool} (hn : n < 7) : bb_L (pm_nr (fun w => true && !G w) (fun w => pm_ds n A w + pm_ds n A w) (2 * (n + 1)) (2 ^ n)) (2 ^ n) = bb_L (fun w => !G w && decide (pm_ds n A w = pm_mn (fun w => G w == false) (fun w => pm_ds n A w) 1000 (2 ^ n))) (2 ^ n) := bb_Lc (fun w hw => by
  show _ = (!G w && decide (pm_ds n A w = pm_mn (fun w => G w == false) (fun w => pm_ds n A w) 1000 (2 ^ n)))
  rw [pm_mn_c (C := fun w => G w == false) (C' := fun w => true && !G w) (D' := fun w => pm_ds n A w) (fun i _ => rl_bne (G i)) (fun _ _ => rfl)]
  exact pm_near (fun i _ => by have := pm_ds_z n A i; omega) (fun i _ => by have := pm_ds_z n A i; omega) (fun i j _ _ => by omega) hw)
end
end
section
/-! what is owed: the calls that change something -/
theorem bi_4 {b : Int32} (h : nI 5 ≤ b) : ¬ b ≤ 4 := by
  intro z
  rw [Int32.le_iff_toInt_le] at h z
  have e1 : (nI 5).toInt = 5 := by decide
  have e2 : (4 : Int32).toInt = 4 := by decide
  omega
theorem jn_x {n : Nat} {hI : Int32} {be fo on : Nat → Int64} {post : Int64 → Prop} {k : Nat} {A C : Nat → Bool} (hn : n < 7) (h1 : 1 ≤ k) (h4 : k ≤ 4) (hp : post (bb_L (fun w => jn_j k (A w) (C w)) (2 ^ n))) : wpX_joinedBy post (nI n, nI (2 ^ n), bb_L (fun _ => true) (2 ^ n), hI, be, fo, on) (nI k) (bb_L A (2 ^ n)) (bb_L C (2 ^ n)) := by
  have hW := bb_W n hn
  have hk : k = 1 ∨ k = 2 ∨ k = 3 ∨ k = 4 := by omega
  rcases hk with rfl | rfl | rfl | rfl
  · exact br_f (by decide) (br_f (by decide) (br_t (by decide) (Eq.mpr (congrArg post (bb_Land hW)) hp)))
  · exact br_f (by decide) (br_f (by decide) (br_f (by decide) (br_t (by decide) (Eq.mpr (congrArg post (bb_Lor hW)) hp))))
  · exact br_f (by decide) (br_f (by decide) (br_f (by decide) (br_f (by decide) (br_t (by decide) (Eq.mpr (congrArg post (bb_Lxor hW)) hp)))))
  · refine br_f (by decide) (br_t (by decide) ?_)
    rw [bb_Ldiff hW, bb_Lor hW]
    exact hp
theorem i_vc_depth {k : Nat} {u : SX} {v : SY} (I : i_Rel k u v) (hk : k + 4 ≤ 2049) : wpX_depth (fun r => wpY_depth (fun r' => r' = r ∧ i_Rel (k + 4) u v) v) u := by
  obtain ⟨n, h, B, F, be, fo, on, he, fm, re, fa, I, rfl, rfl⟩ := I
  have I' := I
  obtain ⟨⟨h2, h7, h8⟩, hbe, hfo, hon, hhe, hfm⟩ := I'
  have hW := bb_W n h7
  exact ⟨rfl, rl_mk I⟩
theorem i_vc_atom {k : Nat} {u : SX} {v : SY} (I : i_Rel k u v) (hk : k + 4 ≤ 2049) (v1 : Int32) : wpX_atom (fun r u' => wpY_atom (fun r' v' => r' = r ∧ i_Rel (k + 4) u' v') v v1) u v1 := by
  obtain ⟨n, h, B, F, be, fo, on, he, fm, re, fa, I, rfl, rfl⟩ := I
  have I' := I
  obtain ⟨⟨h2, h7, h8⟩, hbe, hfo, hon, hhe, hfm⟩ := I'
  have hW := bb_W n h7
  unfold wpX_atom
  dsimp only
  rcases bx_c v1 n (by omega) with hbad | ⟨v, hv, rfl⟩
  · refine xb_vbad hbad (br_t rfl ?_)
    unfold wpY_atom
    dsimp only
    exact yb_vbad hbad (br_f (by decide) ⟨rfl, rl_mk I⟩)
  · refine xb_vok h7 hv (br_f (by decide) ?_)
    by_cases hh : h < 8
    · refine br_t (nI_lt (b := 8) hh (by decide)) ⟨vp_in_nI (by omega) (by decide), ?_⟩
      rw [nI_clamp (by omega), hon v hv]
      refine xw_put hh ?_
      unfold wpY_atom
      dsimp only
      exact yb_vok h7 hv (br_t rfl (br_f (fun z => by have z2 := (nI_eq (b := 8) (by omega) (by decide)).mp z; omega) (yp_atom h7 hh hv ⟨rfl, rl_mk (rl_push I hh)⟩)))
    · have h9 : h = 8 := by omega
      subst h9
      refine br_f (by decide) ?_
      unfold wpY_atom
      dsimp only
      exact yb_vok h7 hv (br_t rfl (br_t rfl ⟨rfl, rl_mk I⟩))
theorem i_vc_quote {k : Nat} {u : SX} {v : SY} (I : i_Rel k u v) (hk : k + 4 ≤ 2049) (v1 : Int32) : wpX_quote (fun r u' => wpY_quote (fun r' v' => r' = r ∧ i_Rel (k + 4) u' v') v v1) u v1 := by
  obtain ⟨n, h, B, F, be, fo, on, he, fm, re, fa, I, rfl, rfl⟩ := I
  have I' := I
  obtain ⟨⟨h2, h7, h8⟩, hbe, hfo, hon, hhe, hfm⟩ := I'
  have hW := bb_W n h7
  unfold wpX_quote
  dsimp only
  rcases bx_c v1 3 (by decide) with hbad | ⟨b, hb, rfl⟩
  · refine xb_bad hbad (br_t rfl ?_)
    unfold wpY_quote
    dsimp only
    exact yb_bad hbad (br_f (by decide) ⟨rfl, rl_mk I⟩)
  · refine xb_ok hb (br_f (by decide) ?_)
    by_cases hh : h < 8
    · refine br_t (nI_lt (b := 8) hh (by decide)) ⟨vp_in_nI (by omega) (by decide), ?_⟩
      rw [nI_clamp (by omega), hbe b hb]
      refine xw_put hh ?_
      unfold wpY_quote
      dsimp only
      exact yb_ok hb (br_t rfl (br_f (fun z => by have z2 := (nI_eq (b := 8) (by omega) (by decide)).mp z; omega) (yp_quote h7 hh hb (hhe b hb) ⟨rfl, rl_mk (rl_push I hh)⟩)))
    · have h9 : h = 8 := by omega
      subst h9
      refine br_f (by decide) ?_
      unfold wpY_quote
      dsimp only
      exact yb_ok hb (br_t rfl (br_t rfl ⟨rfl, rl_mk I⟩))
theorem i_vc_connect {k : Nat} {u : SX} {v : SY} (I : i_Rel k u v) (hk : k + 4 ≤ 2049) (v1 : Int32) : wpX_connect (fun r u' => wpY_connect (fun r' v' => r' = r ∧ i_Rel (k + 4) u' v') v v1) u v1 := by
  obtain ⟨n, h, B, F, be, fo, on, he, fm, re, fa, I, rfl, rfl⟩ := I
  have I' := I
  obtain ⟨⟨h2, h7, h8⟩, hbe, hfo, hon, hhe, hfm⟩ := I'
  have hW := bb_W n h7
  unfold wpX_connect
  dsimp only
  rcases bx_c v1 5 (by decide) with hbad | ⟨k', hk', rfl⟩
  · by_cases h0 : v1 < 0
    · refine br_t h0 ?_
      unfold wpY_connect
      dsimp only
      exact br_t h0 ⟨rfl, rl_mk I⟩
    · have h5 : ¬ v1 ≤ 4 := by
        rcases hbad with z | z
        · exact absurd z h0
        · exact bi_4 z
      refine br_f h0 (br_f h5 ?_)
      unfold wpY_connect
      dsimp only
      exact br_f h0 (br_f h5 ⟨rfl, rl_mk I⟩)
  · have h0 : ¬ nI k' < 0 := nI_pos (by omega)
    have h5 : nI k' ≤ 4 := nI_le (b := 4) (by omega) (by decide)
    refine br_f h0 (br_t h5 ?_)
    by_cases hz : k' = 0
    · subst hz
      refine br_t rfl ?_
      cases h with
      | zero =>
        refine br_f (by decide) ?_
        unfold wpY_connect
        dsimp only
        exact br_f h0 (br_t h5 (br_t rfl (br_f (by decide) ⟨rfl, rl_mk I⟩)))
      | succ h =>
        have hh : h < 8 := by omega
        have h1 : (1 : Int32) ≤ nI (h + 1) := nI_le (a := 1) (by omega) (by omega)
        refine br_t h1 (xw_take hh (br_t rfl ?_))
        rw [hfo h (by omega), bb_Ldiff hW]
        refine xw_put hh ?_
        unfold wpY_connect
        dsimp only
        refine br_f h0 (br_t h5 (br_t rfl (br_t h1 (nm_r (e' := nI (64 * h)) ?_ (br_t rfl (yp_not h7 hh (hfm h (by omega)) ⟨rfl, rl_mk (rl_push (rl_pop I) hh)⟩))))))
        rw [(bi_top h hh).1]
        exact pk_mul 64 h
    · have hne : ¬ nI k' = 0 := nI_ne0 (by omega) (by omega)
      refine br_f hne ?_
      by_cases hge : h < 2
      · have h1 : ¬ (2 : Int32) ≤ nI h := nI_ge (b := 2) hge (by decide)
        refine br_f h1 ?_
        unfold wpY_connect
        dsimp only
        exact br_f h0 (br_t h5 (br_f hne (br_f h1 ⟨rfl, rl_mk I⟩)))
      · obtain ⟨h, rfl⟩ : ∃ h', h = h' + 2 := ⟨h - 2, by omega⟩
        have hh : h < 7 := by omega
        have h1 : (2 : Int32) ≤ nI (h + 2) := nI_le (a := 2) (by omega) (by omega)
        refine br_t h1 (xw_take (h := h + 1) (by omega) (br_f hne (xw_take (by omega) ?_)))
        dsimp only
        rw [hfo h (by omega), hfo (h + 1) (by omega)]
        refine jn_x h7 (by omega) (by omega) (xw_put (by omega) ?_)
        unfold wpY_connect
        dsimp only
        refine br_f h0 (br_t h5 (br_f hne (br_t h1 (nm_r (e' := nI (64 * (h + 1))) ?_ (br_f hne (nm_r (e' := nI (64 * h)) ?_ (yp_join h7 hh (by omega) (by omega) (hfm h (by omega)) (hfm (h + 1) (by omega)) ⟨rfl, rl_mk (rl_push (rl_pop (rl_pop I)) (by omega))⟩)))))))
        · rw [(bi_top (h + 1) (by omega)).1]
          exact pk_mul 64 (h + 1)
        · rw [bi_und h hh]
          exact pk_mul 64 h
theorem i_vc_expand {k : Nat} {u : SX} {v : SY} (I : i_Rel k u v) (hk : k + 4 ≤ 2049) (v1 : Int32) : wpX_expand (fun r u' => wpY_expand (fun r' v' => r' = r ∧ i_Rel (k + 4) u' v') v v1) u v1 := by
  obtain ⟨n, h, B, F, be, fo, on, he, fm, re, fa, I, rfl, rfl⟩ := I
  have I' := I
  obtain ⟨⟨h2, h7, h8⟩, hbe, hfo, hon, hhe, hfm⟩ := I'
  have hW := bb_W n h7
  unfold wpX_expand
  dsimp only
  rcases bx_c v1 3 (by decide) with hbad | ⟨b, hb, rfl⟩
  · refine xb_bad hbad (br_t rfl ?_)
    unfold wpY_expand
    dsimp only
    exact yb_bad hbad (br_f (by decide) ⟨rfl, rl_mk I⟩)
  · refine xb_ok hb (br_f (by decide) ?_)
    have hc : (nI b).toNatClampNeg = b := nI_clamp (by omega)
    cases h with
    | zero =>
      refine br_t rfl ?_
      unfold wpY_expand
      dsimp only
      exact yb_ok hb (br_t rfl (br_t rfl ⟨rfl, rl_mk I⟩))
    | succ h =>
      have hh : h < 8 := by omega
      have hne : ¬ nI (h + 1) = 0 := nI_ne0 (by omega) (by omega)
      refine br_f hne (xw_take hh ?_)
      dsimp only
      refine ⟨vp_in_nI hb (by decide), ?_⟩
      rw [hc, hbe b hb, hfo h (by omega), bb_Land hW]
      refine xw_become h7 hb ?_
      unfold wpY_expand
      dsimp only
      exact yb_ok hb (br_t rfl (br_f hne (yp_expand h7 hh hb (hhe b hb) (hfm h (by omega)) (fun re' => ⟨rfl, rl_mk (rl_set (rl_pop I) hb)⟩))))
theorem i_vc_revise {k : Nat} {u : SX} {v : SY} (I : i_Rel k u v) (hk : k + 4 ≤ 2049) (v1 : Int32) : wpX_revise (fun r u' => wpY_revise (fun r' v' => r' = r ∧ i_Rel (k + 4) u' v') v v1) u v1 := by
  obtain ⟨n, h, B, F, be, fo, on, he, fm, re, fa, I, rfl, rfl⟩ := I
  have I' := I
  obtain ⟨⟨h2, h7, h8⟩, hbe, hfo, hon, hhe, hfm⟩ := I'
  have hW := bb_W n h7
  unfold wpX_revise
  dsimp only
  rcases bx_c v1 3 (by decide) with hbad | ⟨b, hb, rfl⟩
  · refine xb_bad hbad (br_t rfl ?_)
    unfold wpY_revise
    dsimp only
    exact yb_bad hbad (br_f (by decide) ⟨rfl, rl_mk I⟩)
  · refine xb_ok hb (br_f (by decide) ?_)
    have hc : (nI b).toNatClampNeg = b := nI_clamp (by omega)
    cases h with
    | zero =>
      refine br_t rfl ?_
      unfold wpY_revise
      dsimp only
      exact yb_ok hb (br_t rfl (br_t rfl ⟨rfl, rl_mk I⟩))
    | succ h =>
      have hh : h < 8 := by omega
      have hne : ¬ nI (h + 1) = 0 := nI_ne0 (by omega) (by omega)
      refine br_f hne (xw_take hh ?_)
      dsimp only
      refine ⟨vp_in_nI hb (by decide), vp_in_nI hb (by decide), ?_⟩
      rw [hc, hbe b hb, hfo h (by omega)]
      refine xw_near h7 hon ?_
      rw [rl_rev h7]
      refine xw_become h7 hb ?_
      unfold wpY_revise
      dsimp only
      exact yb_ok hb (br_t rfl (br_f hne (yp_revise (A := B b) h7 hh hb hb (hhe b hb) (hhe b hb) (hfm h (by omega)) (fun re' fa' => ⟨rfl, rl_mk (rl_set (rl_pop I) hb)⟩))))
theorem i_vc_update {k : Nat} {u : SX} {v : SY} (I : i_Rel k u v) (hk : k + 4 ≤ 2049) (v1 : Int32) : wpX_update (fun r u' => wpY_update (fun r' v' => r' = r ∧ i_Rel (k + 4) u' v') v v1) u v1 := by
  obtain ⟨n, h, B, F, be, fo, on, he, fm, re, fa, I, rfl, rfl⟩ := I
  have I' := I
  obtain ⟨⟨h2, h7, h8⟩, hbe, hfo, hon, hhe, hfm⟩ := I'
  have hW := bb_W n h7
  unfold wpX_update
  dsimp only
  rcases bx_c v1 3 (by decide) with hbad | ⟨b, hb, rfl⟩
  · refine xb_bad hbad (br_t rfl ?_)
    unfold wpY_update
    dsimp only
    exact yb_bad hbad (br_f (by decide) ⟨rfl, rl_mk I⟩)
  · refine xb_ok hb (br_f (by decide) ?_)
    have hc : (nI b).toNatClampNeg = b := nI_clamp (by omega)
    cases h with
    | zero =>
      refine br_t rfl ?_
      unfold wpY_update
      dsimp only
      exact yb_ok hb (br_t rfl (br_t rfl ⟨rfl, rl_mk I⟩))
    | succ h =>
      have hh : h < 8 := by omega
      have hne : ¬ nI (h + 1) = 0 := nI_ne0 (by omega) (by omega)
      refine br_f hne (xw_take hh ?_)
      dsimp only
      rw [hfo h (by omega)]
      refine xq_update h7 hb (hbe b hb) ?_
      have eR : (fun u => pm_ex (fun w => B b w && (F h u && !pu_nr (F h) (2 ^ n) u w)) (2 ^ n)) = fun u => F h u && pm_ex (fun w => B b w && !pu_nr (F h) (2 ^ n) u w) (2 ^ n) := funext (fun u => pu_up (F h) (B b) (2 ^ n) u)
      rw [eR]
      unfold wpY_update
      dsimp only
      exact yb_ok hb (br_t rfl (br_f hne (yp_update h7 hh hb (hhe b hb) (hfm h (by omega)) (fun re' => ⟨rfl, rl_mk (rl_set (rl_pop I) hb)⟩))))
theorem i_vc_giveUp {k : Nat} {u : SX} {v : SY} (I : i_Rel k u v) (hk : k + 4 ≤ 2049) (v1 : Int32) : wpX_giveUp (fun r u' => wpY_giveUp (fun r' v' => r' = r ∧ i_Rel (k + 4) u' v') v v1) u v1 := by
  obtain ⟨n, h, B, F, be, fo, on, he, fm, re, fa, I, rfl, rfl⟩ := I
  have I' := I
  obtain ⟨⟨h2, h7, h8⟩, hbe, hfo, hon, hhe, hfm⟩ := I'
  have hW := bb_W n h7
  unfold wpX_giveUp
  dsimp only
  rcases bx_c v1 3 (by decide) with hbad | ⟨b, hb, rfl⟩
  · refine xb_bad hbad (br_t rfl ?_)
    unfold wpY_giveUp
    dsimp only
    exact yb_bad hbad (br_f (by decide) ⟨rfl, rl_mk I⟩)
  · refine xb_ok hb (br_f (by decide) ?_)
    have hc : (nI b).toNatClampNeg = b := nI_clamp (by omega)
    cases h with
    | zero =>
      refine br_t rfl ?_
      unfold wpY_giveUp
      dsimp only
      exact yb_ok hb (br_t rfl (br_t rfl ⟨rfl, rl_mk I⟩))
    | succ h =>
      have hh : h < 8 := by omega
      have hne : ¬ nI (h + 1) = 0 := nI_ne0 (by omega) (by omega)
      refine br_f hne (xw_take hh ?_)
      dsimp only
      refine ⟨vp_in_nI hb (by decide), nm_r (e' := bb_L (B b) (2 ^ n)) (by rw [hc]; exact hbe b hb) ?_⟩
      rw [hfo h (by omega), bb_Ldiff hW]
      have hfin : ∀ R, R = gu_R n (B b) (F h) → wpY_giveUp (fun r' v' => r' = nI (pm_cn R (2 ^ n)) ∧ i_Rel (k + 4) (nI n, nI (2 ^ n), bb_L (fun _ => true) (2 ^ n), nI h, vp_updL be b (bb_L R (2 ^ n)), fo, on) v') (nI n, nI (2 ^ n), nI (h + 1), he, fm, re, fa) (nI b) := by
        intro R hR
        subst hR
        unfold wpY_giveUp
        dsimp only
        exact yb_ok hb (br_t rfl (br_f hne (yp_giveUp h7 hh hb (hhe b hb) (hfm h (by omega)) (fun re' fa' => ⟨rfl, rl_mk (rl_set (rl_pop I) hb)⟩))))
      cases hx : pm_ex (fun w => B b w && !F h w) (2 ^ n)
      · refine br_t ((bb_Lz hW).mpr ((pm_ex_f _ _).mp hx)) ?_
        rw [bb_Ldiff hW]
        refine xw_near h7 hon ?_
        rw [rl_giv h7, bb_Lor hW]
        refine xw_become h7 hb (hfin _ ?_)
        exact (if_neg (by rw [hx]; decide)).symm
      · refine br_f (fun z => ?_) ?_
        · rw [(pm_ex_f _ _).mpr ((bb_Lz hW).mp z)] at hx
          exact absurd hx (by decide)
        · refine xw_become h7 hb (hfin _ ?_)
          exact (if_pos hx).symm
theorem i_vc_forget {k : Nat} {u : SX} {v : SY} (I : i_Rel k u v) (hk : k + 4 ≤ 2049) (v1 : Int32) (v2 : Int32) : wpX_forget (fun r u' => wpY_forget (fun r' v' => r' = r ∧ i_Rel (k + 4) u' v') v v1 v2) u v1 v2 := by
  obtain ⟨n, h, B, F, be, fo, on, he, fm, re, fa, I, rfl, rfl⟩ := I
  have I' := I
  obtain ⟨⟨h2, h7, h8⟩, hbe, hfo, hon, hhe, hfm⟩ := I'
  have hW := bb_W n h7
  unfold wpX_forget
  dsimp only
  rcases bx_c v1 3 (by decide) with hbad | ⟨b, hb, rfl⟩
  · refine xb_bad hbad (br_t rfl ?_)
    unfold wpY_forget
    dsimp only
    exact yb_bad hbad (br_f (by decide) ⟨rfl, rl_mk I⟩)
  · refine xb_ok hb (br_f (by decide) ?_)
    have hc : (nI b).toNatClampNeg = b := nI_clamp (by omega)
    rcases bx_c v2 n (by omega) with hbad | ⟨v, hv, rfl⟩
    · refine xb_vbad hbad (br_t rfl ?_)
      unfold wpY_forget
      dsimp only
      exact yb_ok hb (br_t rfl (yb_vbad hbad (br_f (by decide) ⟨rfl, rl_mk I⟩)))
    · refine xb_vok h7 hv (br_f (by decide) ⟨vp_in_nI hb (by decide), ?_⟩)
      rw [hc, hbe b hb]
      refine xw_turn h7 hon hv ⟨vp_in_nI hb (by decide), ?_⟩
      rw [bb_Lor hW]
      refine xw_become h7 hb ?_
      unfold wpY_forget
      dsimp only
      exact yb_ok hb (br_t rfl (yb_vok h7 hv (br_t rfl (yp_forget h7 hb hv (hhe b hb) (fun re' => ⟨rfl, rl_mk (rl_set I hb)⟩)))))
theorem i_vc_merge {k : Nat} {u : SX} {v : SY} (I : i_Rel k u v) (hk : k + 4 ≤ 2049) (v1 : Int32) (v2 : Int32) : wpX_merge (fun r u' => wpY_merge (fun r' v' => r' = r ∧ i_Rel (k + 4) u' v') v v1 v2) u v1 v2 := by
  obtain ⟨n, h, B, F, be, fo, on, he, fm, re, fa, I, rfl, rfl⟩ := I
  have I' := I
  obtain ⟨⟨h2, h7, h8⟩, hbe, hfo, hon, hhe, hfm⟩ := I'
  have hW := bb_W n h7
  unfold wpX_merge
  dsimp only
  rcases bx_c v1 3 (by decide) with hbad | ⟨a, ha, rfl⟩
  · refine xb_bad hbad (br_t rfl ?_)
    unfold wpY_merge
    dsimp only
    exact yb_bad hbad (br_f (by decide) ⟨rfl, rl_mk I⟩)
  · refine xb_ok ha (br_f (by decide) ?_)
    have hca : (nI a).toNatClampNeg = a := nI_clamp (by omega)
    rcases bx_c v2 3 (by decide) with hbad | ⟨b, hb, rfl⟩
    · refine xb_bad hbad (br_t rfl ?_)
      unfold wpY_merge
      dsimp only
      exact yb_ok ha (br_t rfl (yb_bad hbad (br_f (by decide) ⟨rfl, rl_mk I⟩)))
    · refine xb_ok hb (br_f (by decide) ?_)
      have hc : (nI b).toNatClampNeg = b := nI_clamp (by omega)
      cases h with
      | zero =>
        refine br_t rfl ?_
        unfold wpY_merge
        dsimp only
        exact yb_ok ha (br_t rfl (yb_ok hb (br_t rfl (br_t rfl ⟨rfl, rl_mk I⟩))))
      | succ h =>
        have hh : h < 8 := by omega
        have hne : ¬ nI (h + 1) = 0 := nI_ne0 (by omega) (by omega)
        refine br_f hne (xw_take hh ?_)
        dsimp only
        refine ⟨vp_in_nI ha (by decide), vp_in_nI hb (by decide), ?_⟩
        rw [hca, hc, hbe a ha, hbe b hb, hfo h (by omega)]
        refine xw_near h7 hon ?_
        rw [rl_mrg h7]
        refine xw_become h7 hb ?_
        unfold wpY_merge
        dsimp only
        exact yb_ok ha (br_t rfl (yb_ok hb (br_t rfl (br_f hne (yp_merge h7 hh ha hb (hhe a ha) (hhe b hb) (hfm h (by omega)) (fun re' fa' => ⟨rfl, rl_mk (rl_set (rl_pop I) hb)⟩))))))
theorem i_vc_copy {k : Nat} {u : SX} {v : SY} (I : i_Rel k u v) (hk : k + 4 ≤ 2049) (v1 : Int32) (v2 : Int32) : wpX_copy (fun r u' => wpY_copy (fun r' v' => r' = r ∧ i_Rel (k + 4) u' v') v v1 v2) u v1 v2 := by
  obtain ⟨n, h, B, F, be, fo, on, he, fm, re, fa, I, rfl, rfl⟩ := I
  have I' := I
  obtain ⟨⟨h2, h7, h8⟩, hbe, hfo, hon, hhe, hfm⟩ := I'
  have hW := bb_W n h7
  unfold wpX_copy
  dsimp only
  rcases bx_c v1 3 (by decide) with hbad | ⟨a, ha, rfl⟩
  · refine xb_bad hbad (br_t rfl ?_)
    unfold wpY_copy
    dsimp only
    exact yb_bad hbad (br_f (by decide) ⟨rfl, rl_mk I⟩)
  · refine xb_ok ha (br_f (by decide) ?_)
    have hca : (nI a).toNatClampNeg = a := nI_clamp (by omega)
    rcases bx_c v2 3 (by decide) with hbad | ⟨b, hb, rfl⟩
    · refine xb_bad hbad (br_t rfl ?_)
      unfold wpY_copy
      dsimp only
      exact yb_ok ha (br_t rfl (yb_bad hbad (br_f (by decide) ⟨rfl, rl_mk I⟩)))
    · refine xb_ok hb (br_f (by decide) ⟨vp_in_nI ha (by decide), ?_⟩)
      rw [hca, hbe a ha]
      refine xw_become h7 hb ?_
      unfold wpY_copy
      dsimp only
      exact yb_ok ha (br_t rfl (yb_ok hb (br_t rfl (yp_copy h7 ha hb (hhe a ha) (fun re' => ⟨rfl, rl_mk (rl_set I hb)⟩)))))
end
section
/-! what is owed: the questions -/
theorem yw_empty {n : Nat} {hI : Int32} {he fm re fa : Nat → Int32} {post : Int32 → Prop} {B : Nat → Bool} {b : Nat} (hn : n < 7) (hb : b < 3) (hB : ∀ w, w < 2 ^ n → he (64 * b + w) = bi_I (B w)) (h1 : (∀ w, w < 2 ^ n → B w = false) → post 1) (h0 : (¬ ∀ w, w < 2 ^ n → B w = false) → post 0) : wpY_empty post (nI n, nI (2 ^ n), hI, he, fm, re, fa) (nI b) := by
  have hW := bb_W n hn
  have hle := pm_cn_le B (2 ^ n)
  unfold wpY_empty
  dsimp only
  unfold wpY_count
  dsimp only
  refine yb_ok hb (br_t rfl (ys_count hn hb hB ?_))
  by_cases hz : ∀ w, w < 2 ^ n → B w = false
  · refine br_t ?_ (h1 hz)
    rw [(pm_cn_0 B (2 ^ n)).mpr hz]; rfl
  · refine br_f (fun z => hz ((pm_cn_0 B (2 ^ n)).mp ?_)) (h0 hz)
    exact (nI_eq (by omega) (by decide)).mp (z.trans nI_0.symm)
theorem i_vc_truth {k : Nat} {u : SX} {v : SY} (I : i_Rel k u v) (hk : k + 4 ≤ 2049) (v1 : Int32) : wpX_truth (fun r => wpY_truth (fun r' => r' = r ∧ i_Rel (k + 4) u v) v v1) u v1 := by
  obtain ⟨n, h, B, F, be, fo, on, he, fm, re, fa, I, rfl, rfl⟩ := I
  have I' := I
  obtain ⟨⟨h2, h7, h8⟩, hbe, hfo, hon, hhe, hfm⟩ := I'
  have hW := bb_W n h7
  unfold wpX_truth
  dsimp only
  cases h with
  | zero =>
    refine br_t rfl ?_
    unfold wpY_truth
    dsimp only
    exact br_t rfl ⟨rfl, rl_mk I⟩
  | succ h =>
    have hh : h < 8 := by omega
    have hne : ¬ nI (h + 1) = 0 := nI_ne0 (by omega) (by omega)
    refine br_f hne ?_
    rcases bx_c v1 (2 ^ n) (xw_W31 h7) with hbad | ⟨w, hw, rfl⟩
    · refine xb_wbad hbad (br_t rfl ?_)
      unfold wpY_truth
      dsimp only
      exact br_f hne (yb_wbad hbad (br_f (by decide) ⟨rfl, rl_mk I⟩))
    · refine xb_wok h7 hw (br_f (by decide) ?_)
      rw [nI_pred, show (nI h).toNatClampNeg = h from nI_clamp (by omega), hfo h (by omega)]
      refine ⟨vp_in_nI hh (by decide), xw_inL h7 hw ?_⟩
      cases hq : F h w
      · refine br_t rfl ?_
        unfold wpY_truth
        dsimp only
        exact br_f hne (yb_wok h7 hw (br_t rfl (yw_top hh (by omega) ((hfm h (by omega) w hw).trans (congrArg bi_I hq)) (br_t rfl ⟨rfl, rl_mk I⟩))))
      · refine br_f (by decide) ?_
        unfold wpY_truth
        dsimp only
        exact br_f hne (yb_wok h7 hw (br_t rfl (yw_top hh (by omega) ((hfm h (by omega) w hw).trans (congrArg bi_I hq)) (br_f (by decide) ⟨rfl, rl_mk I⟩))))
theorem i_vc_holds {k : Nat} {u : SX} {v : SY} (I : i_Rel k u v) (hk : k + 4 ≤ 2049) (v1 : Int32) (v2 : Int32) : wpX_holds (fun r => wpY_holds (fun r' => r' = r ∧ i_Rel (k + 4) u v) v v1 v2) u v1 v2 := by
  obtain ⟨n, h, B, F, be, fo, on, he, fm, re, fa, I, rfl, rfl⟩ := I
  have I' := I
  obtain ⟨⟨h2, h7, h8⟩, hbe, hfo, hon, hhe, hfm⟩ := I'
  have hW := bb_W n h7
  unfold wpX_holds
  dsimp only
  rcases bx_c v1 3 (by decide) with hbad | ⟨b, hb, rfl⟩
  · refine xb_bad hbad (br_t rfl ?_)
    unfold wpY_holds
    dsimp only
    exact yb_bad hbad (br_f (by decide) ⟨rfl, rl_mk I⟩)
  · refine xb_ok hb (br_f (by decide) ?_)
    have hc : (nI b).toNatClampNeg = b := nI_clamp (by omega)
    rcases bx_c v2 (2 ^ n) (xw_W31 h7) with hbad | ⟨w, hw, rfl⟩
    · refine xb_wbad hbad (br_t rfl ?_)
      unfold wpY_holds
      dsimp only
      exact yb_ok hb (br_t rfl (yb_wbad hbad (br_f (by decide) ⟨rfl, rl_mk I⟩)))
    · refine xb_wok h7 hw (br_f (by decide) ?_)
      rw [hc, hbe b hb]
      refine ⟨vp_in_nI hb (by decide), xw_inL h7 hw ?_⟩
      cases hq : B b w
      · refine br_t rfl ?_
        unfold wpY_holds
        dsimp only
        exact yb_ok hb (br_t rfl (yb_wok h7 hw (br_t rfl (yw_in hb (by omega) ((hhe b hb w hw).trans (congrArg bi_I hq)) (br_t rfl ⟨rfl, rl_mk I⟩)))))
      · refine br_f (by decide) ?_
        unfold wpY_holds
        dsimp only
        exact yb_ok hb (br_t rfl (yb_wok h7 hw (br_t rfl (yw_in hb (by omega) ((hhe b hb w hw).trans (congrArg bi_I hq)) (br_f (by decide) ⟨rfl, rl_mk I⟩)))))
theorem i_vc_count {k : Nat} {u : SX} {v : SY} (I : i_Rel k u v) (hk : k + 4 ≤ 2049) (v1 : Int32) : wpX_count (fun r => wpY_count (fun r' => r' = r ∧ i_Rel (k + 4) u v) v v1) u v1 := by
  obtain ⟨n, h, B, F, be, fo, on, he, fm, re, fa, I, rfl, rfl⟩ := I
  have I' := I
  obtain ⟨⟨h2, h7, h8⟩, hbe, hfo, hon, hhe, hfm⟩ := I'
  have hW := bb_W n h7
  unfold wpX_count
  dsimp only
  rcases bx_c v1 3 (by decide) with hbad | ⟨b, hb, rfl⟩
  · refine xb_bad hbad (br_t rfl ?_)
    unfold wpY_count
    dsimp only
    exact yb_bad hbad (br_f (by decide) ⟨rfl, rl_mk I⟩)
  · refine xb_ok hb (br_f (by decide) ?_)
    have hc : (nI b).toNatClampNeg = b := nI_clamp (by omega)
    rw [hc, hbe b hb]
    refine ⟨vp_in_nI hb (by decide), xw_size h7 ?_⟩
    unfold wpY_count
    dsimp only
    exact yb_ok hb (br_t rfl (ys_count h7 hb (hhe b hb) ⟨rfl, rl_mk I⟩))
theorem i_vc_next {k : Nat} {u : SX} {v : SY} (I : i_Rel k u v) (hk : k + 4 ≤ 2049) (v1 : Int32) (v2 : Int32) : wpX_next (fun r => wpY_next (fun r' => r' = r ∧ i_Rel (k + 4) u v) v v1 v2) u v1 v2 := by
  obtain ⟨n, h, B, F, be, fo, on, he, fm, re, fa, I, rfl, rfl⟩ := I
  have I' := I
  obtain ⟨⟨h2, h7, h8⟩, hbe, hfo, hon, hhe, hfm⟩ := I'
  have hW := bb_W n h7
  unfold wpX_next
  dsimp only
  rcases bx_c v1 3 (by decide) with hbad | ⟨b, hb, rfl⟩
  · refine xb_bad hbad (br_t rfl ?_)
    unfold wpY_next
    dsimp only
    exact yb_bad hbad (br_f (by decide) ⟨rfl, rl_mk I⟩)
  · refine xb_ok hb (br_f (by decide) ?_)
    have hc : (nI b).toNatClampNeg = b := nI_clamp (by omega)
    obtain ⟨r, hX, hY⟩ := xq_next (e := bb_L (fun _ => true) (2 ^ n)) (hI := nI h) (fo := fo) (on := on) (fm := fm) (re := re) (fa := fa) (a := v2) h7 hb (hbe b hb) (hhe b hb) (2 ^ n) 0 (by omega)
    refine ⟨_, hX _ ?_⟩
    unfold wpY_next
    dsimp only
    exact yb_ok hb (br_t rfl ⟨_, hY _ ⟨rfl, rl_mk I⟩⟩)
theorem i_vc_entails {k : Nat} {u : SX} {v : SY} (I : i_Rel k u v) (hk : k + 4 ≤ 2049) (v1 : Int32) : wpX_entails (fun r => wpY_entails (fun r' => r' = r ∧ i_Rel (k + 4) u v) v v1) u v1 := by
  obtain ⟨n, h, B, F, be, fo, on, he, fm, re, fa, I, rfl, rfl⟩ := I
  have I' := I
  obtain ⟨⟨h2, h7, h8⟩, hbe, hfo, hon, hhe, hfm⟩ := I'
  have hW := bb_W n h7
  unfold wpX_entails
  dsimp only
  rcases bx_c v1 3 (by decide) with hbad | ⟨b, hb, rfl⟩
  · refine xb_bad hbad (br_t rfl ?_)
    unfold wpY_entails
    dsimp only
    exact yb_bad hbad (br_f (by decide) ⟨rfl, rl_mk I⟩)
  · refine xb_ok hb (br_f (by decide) ?_)
    have hc : (nI b).toNatClampNeg = b := nI_clamp (by omega)
    cases h with
    | zero =>
      refine br_t rfl ?_
      unfold wpY_entails
      dsimp only
      exact yb_ok hb (br_t rfl (br_t rfl ⟨rfl, rl_mk I⟩))
    | succ h =>
      have hh : h < 8 := by omega
      have hne : ¬ nI (h + 1) = 0 := nI_ne0 (by omega) (by omega)
      refine br_f hne ?_
      rw [nI_pred, show (nI h).toNatClampNeg = h from nI_clamp (by omega), hc, hbe b hb, hfo h (by omega), bb_Ldiff hW]
      refine ⟨vp_in_nI hb (by decide), vp_in_nI hh (by decide), ?_⟩
      have hfin : wpY_entails (fun r' => r' = bi_I (!pm_ex (fun w => B b w && !F h w) (2 ^ n)) ∧ i_Rel (k + 4) (nI n, nI (2 ^ n), bb_L (fun _ => true) (2 ^ n), nI (h + 1), be, fo, on) (nI n, nI (2 ^ n), nI (h + 1), he, fm, re, fa)) (nI n, nI (2 ^ n), nI (h + 1), he, fm, re, fa) (nI b) := by
        unfold wpY_entails
        dsimp only
        exact yb_ok hb (br_t rfl (br_f hne (ys_entails h7 hh hb (hhe b hb) (hfm h (by omega)) ⟨rfl, rl_mk I⟩)))
      cases hx : pm_ex (fun w => B b w && !F h w) (2 ^ n)
      · rw [hx] at hfin
        exact br_t ((bb_Lz hW).mpr ((pm_ex_f _ _).mp hx)) hfin
      · rw [hx] at hfin
        refine br_f (fun z => ?_) hfin
        rw [(pm_ex_f _ _).mpr ((bb_Lz hW).mp z)] at hx
        exact absurd hx (by decide)
theorem i_vc_distance {k : Nat} {u : SX} {v : SY} (I : i_Rel k u v) (hk : k + 4 ≤ 2049) (v1 : Int32) (v2 : Int32) : wpX_distance (fun r => wpY_distance (fun r' => r' = r ∧ i_Rel (k + 4) u v) v v1 v2) u v1 v2 := by
  obtain ⟨n, h, B, F, be, fo, on, he, fm, re, fa, I, rfl, rfl⟩ := I
  have I' := I
  obtain ⟨⟨h2, h7, h8⟩, hbe, hfo, hon, hhe, hfm⟩ := I'
  have hW := bb_W n h7
  unfold wpX_distance
  dsimp only
  rcases bx_c v1 3 (by decide) with hbad | ⟨a, ha, rfl⟩
  · refine xb_bad hbad (br_t rfl ?_)
    unfold wpY_distance
    dsimp only
    exact yb_bad hbad (br_f (by decide) ⟨rfl, rl_mk I⟩)
  · refine xb_ok ha (br_f (by decide) ?_)
    have hca : (nI a).toNatClampNeg = a := nI_clamp (by omega)
    rcases bx_c v2 3 (by decide) with hbad | ⟨b, hb, rfl⟩
    · refine xb_bad hbad (br_t rfl ?_)
      unfold wpY_distance
      dsimp only
      exact yb_ok ha (br_t rfl (yb_bad hbad (br_f (by decide) ⟨rfl, rl_mk I⟩)))
    · refine xb_ok hb (br_f (by decide) ⟨vp_in_nI ha (by decide), ?_⟩)
      have hc : (nI b).toNatClampNeg = b := nI_clamp (by omega)
      rw [hca, hc, hbe a ha, hbe b hb]
      by_cases hA : ∀ w, w < 2 ^ n → B a w = false
      · refine br_t ((bb_Lz hW).mpr hA) ?_
        unfold wpY_distance
        dsimp only
        exact yb_ok ha (br_t rfl (yb_ok hb (br_t rfl (yw_empty h7 ha (hhe a ha) (fun _ => br_f (by decide) ⟨rfl, rl_mk I⟩) (fun z => absurd hA z)))))
      · refine br_f (fun z => hA ((bb_Lz hW).mp z)) ⟨vp_in_nI hb (by decide), ?_⟩
        by_cases hB : ∀ w, w < 2 ^ n → B b w = false
        · refine br_t ((bb_Lz hW).mpr hB) ?_
          unfold wpY_distance
          dsimp only
          exact yb_ok ha (br_t rfl (yb_ok hb (br_t rfl (yw_empty h7 ha (hhe a ha) (fun z => absurd z hA) (fun _ => br_t rfl (yw_empty h7 hb (hhe b hb) (fun _ => br_f (by decide) ⟨rfl, rl_mk I⟩) (fun z => absurd hB z)))))))
        · refine br_f (fun z => hB ((bb_Lz hW).mp z)) (xq_distance h7 hon ha hb (hbe a ha) (hbe b hb) ?_)
          rw [pu_dist hA hB]
          unfold wpY_distance
          dsimp only
          exact yb_ok ha (br_t rfl (yb_ok hb (br_t rfl (yw_empty h7 ha (hhe a ha) (fun z => absurd z hA) (fun _ => br_t rfl (yw_empty h7 hb (hhe b hb) (fun z => absurd z hB) (fun _ => br_t rfl (nm_r (nI_1 n) (ys_distance h7 ha hb (hhe a ha) (hhe b hb) ⟨rfl, rl_mk I⟩))))))))) 
theorem i_vc_reach {k : Nat} {u : SX} {v : SY} (I : i_Rel k u v) (hk : k + 4 ≤ 2049) (v1 : Int32) (v2 : Int32) : wpX_reach (fun r => wpY_reach (fun r' => r' = r ∧ i_Rel (k + 4) u v) v v1 v2) u v1 v2 := by
  obtain ⟨n, h, B, F, be, fo, on, he, fm, re, fa, I, rfl, rfl⟩ := I
  have I' := I
  obtain ⟨⟨h2, h7, h8⟩, hbe, hfo, hon, hhe, hfm⟩ := I'
  have hW := bb_W n h7
  unfold wpX_reach
  dsimp only
  rcases bx_c v1 3 (by decide) with hbad | ⟨a, ha, rfl⟩
  · refine xb_bad hbad (br_t rfl ?_)
    unfold wpY_reach
    dsimp only
    exact yb_bad hbad (br_f (by decide) ⟨rfl, rl_mk I⟩)
  · refine xb_ok ha (br_f (by decide) ?_)
    have hca : (nI a).toNatClampNeg = a := nI_clamp (by omega)
    rcases bx_c v2 3 (by decide) with hbad | ⟨b, hb, rfl⟩
    · refine xb_bad hbad (br_t rfl ?_)
      unfold wpY_reach
      dsimp only
      exact yb_ok ha (br_t rfl (yb_bad hbad (br_f (by decide) ⟨rfl, rl_mk I⟩)))
    · refine xb_ok hb (br_f (by decide) ⟨vp_in_nI ha (by decide), ?_⟩)
      have hc : (nI b).toNatClampNeg = b := nI_clamp (by omega)
      rw [hca, hc, hbe a ha, hbe b hb]
      by_cases hA : ∀ w, w < 2 ^ n → B a w = false
      · refine br_t ((bb_Lz hW).mpr hA) ?_
        unfold wpY_reach
        dsimp only
        exact yb_ok ha (br_t rfl (yb_ok hb (br_t rfl (yw_empty h7 ha (hhe a ha) (fun _ => br_f (by decide) ⟨rfl, rl_mk I⟩) (fun z => absurd hA z)))))
      · refine br_f (fun z => hA ((bb_Lz hW).mp z)) ⟨vp_in_nI hb (by decide), ?_⟩
        by_cases hB : ∀ w, w < 2 ^ n → B b w = false
        · refine br_t ((bb_Lz hW).mpr hB) ?_
          unfold wpY_reach
          dsimp only
          exact yb_ok ha (br_t rfl (yb_ok hb (br_t rfl (yw_empty h7 ha (hhe a ha) (fun z => absurd z hA) (fun _ => br_t rfl (yw_empty h7 hb (hhe b hb) (fun _ => br_f (by decide) ⟨rfl, rl_mk I⟩) (fun z => absurd hB z)))))))
        · refine br_f (fun z => hB ((bb_Lz hW).mp z)) (xq_reach h7 hon ha hb (hbe a ha) (hbe b hb) ?_)
          unfold wpY_reach
          dsimp only
          exact yb_ok ha (br_t rfl (yb_ok hb (br_t rfl (yw_empty h7 ha (hhe a ha) (fun z => absurd z hA) (fun _ => br_t rfl (yw_empty h7 hb (hhe b hb) (fun z => absurd z hB) (fun _ => br_t rfl (ys_reach h7 ha hb (hhe a ha) (hhe b hb) ⟨rfl, rl_mk I⟩)))))))) 
theorem i_vc_matters {k : Nat} {u : SX} {v : SY} (I : i_Rel k u v) (hk : k + 4 ≤ 2049) (v1 : Int32) (v2 : Int32) : wpX_matters (fun r => wpY_matters (fun r' => r' = r ∧ i_Rel (k + 4) u v) v v1 v2) u v1 v2 := by
  obtain ⟨n, h, B, F, be, fo, on, he, fm, re, fa, I, rfl, rfl⟩ := I
  have I' := I
  obtain ⟨⟨h2, h7, h8⟩, hbe, hfo, hon, hhe, hfm⟩ := I'
  have hW := bb_W n h7
  unfold wpX_matters
  dsimp only
  rcases bx_c v1 3 (by decide) with hbad | ⟨b, hb, rfl⟩
  · refine xb_bad hbad (br_t rfl ?_)
    unfold wpY_matters
    dsimp only
    exact yb_bad hbad (br_f (by decide) ⟨rfl, rl_mk I⟩)
  · refine xb_ok hb (br_f (by decide) ?_)
    have hc : (nI b).toNatClampNeg = b := nI_clamp (by omega)
    rcases bx_c v2 n (by omega) with hbad | ⟨v, hv, rfl⟩
    · refine xb_vbad hbad (br_t rfl ?_)
      unfold wpY_matters
      dsimp only
      exact yb_ok hb (br_t rfl (yb_vbad hbad (br_f (by decide) ⟨rfl, rl_mk I⟩)))
    · refine xb_vok h7 hv (br_f (by decide) ⟨vp_in_nI hb (by decide), ?_⟩)
      rw [hc, hbe b hb]
      refine xw_turn h7 hon hv ⟨vp_in_nI hb (by decide), ?_⟩
      rw [bb_Ldiff hW]
      have hfin : wpY_matters (fun r' => r' = bi_I (pm_ex (fun w => B b w && !B b (w ^^^ 2 ^ v)) (2 ^ n)) ∧ i_Rel (k + 4) (nI n, nI (2 ^ n), bb_L (fun _ => true) (2 ^ n), nI h, be, fo, on) (nI n, nI (2 ^ n), nI h, he, fm, re, fa)) (nI n, nI (2 ^ n), nI h, he, fm, re, fa) (nI b) (nI v) := by
        unfold wpY_matters
        dsimp only
        exact yb_ok hb (br_t rfl (yb_vok h7 hv (br_t rfl (ys_matters h7 hb hv (hhe b hb) ⟨rfl, rl_mk I⟩))))
      cases hx : pm_ex (fun w => B b w && !B b (w ^^^ 2 ^ v)) (2 ^ n)
      · rw [hx] at hfin
        exact br_t ((bb_Lz hW).mpr ((pm_ex_f _ _).mp hx)) hfin
      · rw [hx] at hfin
        refine br_f (fun z => ?_) hfin
        rw [(pm_ex_f _ _).mpr ((bb_Lz hW).mp z)] at hx
        exact absurd hx (by decide)
theorem i_vc_defined {k : Nat} {u : SX} {v : SY} (I : i_Rel k u v) (hk : k + 4 ≤ 2049) (v1 : Int32) (v2 : Int32) (v3 : Int32) : wpX_defined (fun r => wpY_defined (fun r' => r' = r ∧ i_Rel (k + 4) u v) v v1 v2 v3) u v1 v2 v3 := by
  obtain ⟨n, h, B, F, be, fo, on, he, fm, re, fa, I, rfl, rfl⟩ := I
  have I' := I
  obtain ⟨⟨h2, h7, h8⟩, hbe, hfo, hon, hhe, hfm⟩ := I'
  have hW := bb_W n h7
  unfold wpX_defined
  dsimp only
  rcases bx_c v1 3 (by decide) with hbad | ⟨b, hb, rfl⟩
  · refine xb_bad hbad (br_t rfl ?_)
    unfold wpY_defined
    dsimp only
    exact yb_bad hbad (br_f (by decide) ⟨rfl, rl_mk I⟩)
  · refine xb_ok hb (br_f (by decide) ?_)
    have hc : (nI b).toNatClampNeg = b := nI_clamp (by omega)
    rcases bx_c v2 n (by omega) with hbad | ⟨v, hv, rfl⟩
    · refine xb_vbad hbad (br_t rfl ?_)
      unfold wpY_defined
      dsimp only
      exact yb_ok hb (br_t rfl (yb_vbad hbad (br_f (by decide) ⟨rfl, rl_mk I⟩)))
    · refine xb_vok h7 hv (br_f (by decide) ?_)
      have hcv : (nI v).toNatClampNeg = v := nI_clamp (by omega)
      rcases bx_c v3 (2 ^ n) (xw_W31 h7) with hbad | ⟨s, hs, rfl⟩
      · refine xb_wbad hbad (br_t rfl ?_)
        unfold wpY_defined
        dsimp only
        refine yb_ok hb (br_t rfl (yb_vok h7 hv (br_t rfl ?_)))
        by_cases h0 : v3 < 0
        · exact br_t h0 ⟨rfl, rl_mk I⟩
        · rcases hbad with z | z
          · exact absurd z h0
          · exact br_f h0 (br_f (Int32.not_lt.mpr z) ⟨rfl, rl_mk I⟩)
      · refine xb_wok h7 hs (br_f (by decide) ?_)
        rw [hc, hcv, hbe b hb, hon v hv]
        have i3 : vp_in (nI b) 3 := vp_in_nI hb (by decide)
        have i6 : vp_in (nI v) 6 := vp_in_nI (by omega) (by decide)
        refine ⟨i3, i6, nm_r (bb_Land hW) ⟨i3, i6, nm_r (bb_Ldiff hW) (xq_defined h7 hs ?_)⟩⟩
        rw [pu_def (B b) (fun w => Nat.testBit w v) (2 ^ n) s]
        unfold wpY_defined
        dsimp only
        exact yb_ok hb (br_t rfl (yb_vok h7 hv (br_t rfl (br_f (nI_pos (by omega)) (br_t (nI_lt hs (xw_W31 h7)) (ys_defined h7 hb hv hs (hhe b hb) ⟨rfl, rl_mk I⟩))))))
theorem i_vc_primes {k : Nat} {u : SX} {v : SY} (I : i_Rel k u v) (hk : k + 4 ≤ 2049) (v1 : Int32) : wpX_primes (fun r => wpY_primes (fun r' => r' = r ∧ i_Rel (k + 4) u v) v v1) u v1 := by
  obtain ⟨n, h, B, F, be, fo, on, he, fm, re, fa, I, rfl, rfl⟩ := I
  have I' := I
  obtain ⟨⟨h2, h7, h8⟩, hbe, hfo, hon, hhe, hfm⟩ := I'
  have hW := bb_W n h7
  unfold wpX_primes
  dsimp only
  rcases bx_c v1 3 (by decide) with hbad | ⟨b, hb, rfl⟩
  · refine xb_bad hbad (br_t rfl ?_)
    unfold wpY_primes
    dsimp only
    exact yb_bad hbad (br_f (by decide) ⟨rfl, rl_mk I⟩)
  · refine xb_ok hb (br_f (by decide) ?_)
    have hc : (nI b).toNatClampNeg = b := nI_clamp (by omega)
    refine xq_primes h7 hon hb (hbe b hb) ?_
    rw [pq_primes]
    unfold wpY_primes
    dsimp only
    exact yb_ok hb (br_t rfl (ys_primes h7 hb (hhe b hb) ⟨rfl, rl_mk I⟩))
end
section
/-! a new object -/
def oi_A (n : Nat) : Nat → Nat → Int64
  | 0 => fun _ => 0
  | i + 1 => vp_updL (oi_A n i) i (bb_L (fun w => Nat.testBit w i) (2 ^ n))
theorem oi_hi (n : Nat) : ∀ i j, i ≤ j → oi_A n i j = 0 := by
  intro i
  induction i with
  | zero => intro j _; rfl
  | succ i ih =>
    intro j hj
    show vp_updL (oi_A n i) i _ j = 0
    rw [pk_uLn (by omega)]
    exact ih j (by omega)
theorem oi_lo (n : Nat) : ∀ i v, v < i → oi_A n i v = bb_L (fun w => Nat.testBit w v) (2 ^ n) := by
  intro i
  induction i with
  | zero => intro v hv; omega
  | succ i ih =>
    intro v hv
    show vp_updL (oi_A n i) i _ v = _
    by_cases e : v = i
    · subst e; rw [pk_uLs]
    · rw [pk_uLn e]; exact ih v (by omega)
theorem oi_uu (a : Nat → Int64) (i : Nat) (x y : Int64) : vp_updL (vp_updL a i x) i y = vp_updL a i y := funext (fun j => by
  unfold vp_updL
  by_cases e : j = i
  · rw [if_pos e, if_pos e]
  · rw [if_neg e, if_neg e, if_neg e])
theorem oi_us (a : Nat → Int64) (i : Nat) (x : Int64) (h : a i = x) : vp_updL a i x = a := funext (fun j => by
  unfold vp_updL
  by_cases e : j = i
  · rw [if_pos e, e, h]
  · rw [if_neg e])
def oi_B (n : Nat) : Nat → Nat → Int64
  | 0 => fun _ => 0
  | i + 1 => vp_updL (oi_B n i) i (bb_L (fun _ => true) (2 ^ n))
theorem oi_Blo (n : Nat) : ∀ i v, v < i → oi_B n i v = bb_L (fun _ => true) (2 ^ n) := by
  intro i
  induction i with
  | zero => intro v hv; omega
  | succ i ih =>
    intro v hv
    show vp_updL (oi_B n i) i _ v = _
    by_cases e : v = i
    · subst e; rw [pk_uLs]
    · rw [pk_uLn e]; exact ih v (by omega)
theorem oi_E : ∀ n, n < 7 → 2 ≤ n → ((-1 : Int64).toUInt64 >>> ((64 - nI (2 ^ n)).toInt64.toUInt64 &&& Int64.toUInt64 63)).toInt64 = bb_L (fun _ => true) (2 ^ n) := by decide +kernel
theorem oi_X {n : Nat} {post : SX → Prop} {g1 g2 : Int32} {g3 : Int64} {g4 : Int32} (hn : n < 7) (h2 : 2 ≤ n) (hp : post (nI n, nI (2 ^ n), bb_L (fun _ => true) (2 ^ n), nI 0, oi_B n 3, (fun _ => 0), oi_A n n)) : wX_init_49 post (nI n) g1 g2 g3 g4 (fun _ => 0) (fun _ => 0) (fun _ => 0) := by
  have hW := bb_W n hn
  refine nm_r (bb_step n hn) (nm_r (oi_E n hn h2) ?_)
  refine xl_up (fun m i => wX_init_84 post (nI n) (nI (2 ^ n)) (bb_L (fun _ => true) (2 ^ n)) 0 m (nI i) (fun _ => 0) (fun _ => 0) (oi_A n i)) n ?_ ?_
  · intro m
    refine br_t (nI_le (Nat.le_refl _) (by omega)) ?_
    refine xl_up (fun m i => wX_init_136 post (nI n) (nI (2 ^ n)) (bb_L (fun _ => true) (2 ^ n)) 0 m (nI i) (oi_B n i) (fun _ => 0) (oi_A n n)) 3 ?_ ?_
    · intro m
      exact br_t (by decide) hp
    · intro m i hi ih
      exact br_f (nI_ge (b := 3) hi (by decide)) ⟨vp_in_nI hi (by decide), nm_r (congrArg (fun k => vp_updL (oi_B n i) k (bb_L (fun _ => true) (2 ^ n))) (nI_clamp (show i < 2 ^ 31 by omega))) (nm_r (nI_1 i) ih)⟩
  · intro m i hi ih
    refine br_f (nI_ge hi (by omega)) ?_
    have key := xl_up (fun m' w => wX_init_94 post (wX_init_84 post (nI n) (nI (2 ^ n)) (bb_L (fun _ => true) (2 ^ n)) 0 m) (nI i) (nI n) (nI (2 ^ n)) (bb_L (fun _ => true) (2 ^ n)) 0 m' (nI w) (fun _ => 0) (fun _ => 0) (vp_updL (oi_A n i) i (bb_L (bs_S (fun x => Nat.testBit x i) w) (2 ^ n)))) (2 ^ n) (fun m' => by
      refine br_t (nI_le (Nat.le_refl _) (xw_W31 hn)) (nm_r (nI_1 i) ?_)
      rw [bs_e]
      exact ih) (fun m' w hw jh => by
      refine br_f (nI_ge hw (xw_W31 hn)) ?_
      have jh' : wX_init_94 post (wX_init_84 post (nI n) (nI (2 ^ n)) (bb_L (fun _ => true) (2 ^ n)) 0 m) (nI i) (nI n) (nI (2 ^ n)) (bb_L (fun _ => true) (2 ^ n)) 0 m' (nI (w + 1)) (fun _ => 0) (fun _ => 0) (vp_updL (oi_A n i) i (bb_L (bs_S (fun x => Nat.testBit x i) (w + 1)) (2 ^ n))) := jh
      clear jh
      have hin : vp_in (nI i) 6 := vp_in_nI (by omega) (by decide)
      have hc : (nI i).toNatClampNeg = i := nI_clamp (by omega)
      cases hb : Nat.testBit w i
      · rw [bs_f (P := fun x => Nat.testBit x i) hb] at jh'
        exact br_t ((xv_bit (by omega) (by omega)).mpr hb) (nm_r (nI_1 w) jh')
      · refine br_f (fun z => absurd ((xv_bit (by omega) (by omega)).mp z) (by rw [hb]; decide)) ⟨hin, hin, nm_r (e' := vp_updL (oi_A n i) i (bb_L (bs_S (fun x => Nat.testBit x i) (w + 1)) (2 ^ n))) ?_ (nm_r (nI_1 w) jh')⟩
        rw [hc, pk_uLs, oi_uu, bs_t (P := fun x => Nat.testBit x i) hb hW hw])
    obtain ⟨m', hm⟩ := key
    refine ⟨m', ?_⟩
    have hm' : wX_init_94 post (wX_init_84 post (nI n) (nI (2 ^ n)) (bb_L (fun _ => true) (2 ^ n)) 0 m) (nI i) (nI n) (nI (2 ^ n)) (bb_L (fun _ => true) (2 ^ n)) 0 m' (nI 0) (fun _ => 0) (fun _ => 0) (vp_updL (oi_A n i) i (bb_L (bs_S (fun x => Nat.testBit x i) 0) (2 ^ n))) := hm
    rw [bs_0, oi_us _ _ _ (oi_hi n i i (Nat.le_refl i))] at hm'
    exact hm'
def oi_H (n : Nat) : Nat → Nat → Int32
  | 0 => fun _ => 0
  | b + 1 => fa_F (oi_H n b) (64 * b) (fun _ => bi_I true) (2 ^ n)
theorem oi_Hlo {n : Nat} (hn : n < 7) : ∀ m b, b < m → ∀ w, w < 2 ^ n → oi_H n m (64 * b + w) = bi_I true := by
  have hW := bb_W n hn
  intro m
  induction m with
  | zero => intro b hb; omega
  | succ m ih =>
    intro b hb w hw
    show fa_F (oi_H n m) (64 * m) (fun _ => bi_I true) (2 ^ n) (64 * b + w) = bi_I true
    by_cases e : b = m
    · subst e; exact fa_in hw
    · rw [fa_out (by omega)]; exact ih b (by omega) w hw
theorem oi_Y {n : Nat} {post : SY → Prop} {g1 g2 : Int32} (hn : n < 7) (hp : post (nI n, nI (2 ^ n), nI 0, oi_H n 3, (fun _ => 0), (fun _ => 0), (fun _ => 0))) : wY_init_60 post (nI n) g1 g2 0 (fun _ => 0) (fun _ => 0) (fun _ => 0) (fun _ => 0) := by
  have hW := bb_W n hn
  refine nm_r (bb_step n hn) ?_
  refine xl_up (fun m i => wY_init_75 post (nI n) (nI (2 ^ n)) 0 m (nI i) (oi_H n i) (fun _ => 0) (fun _ => 0) (fun _ => 0)) 3 ?_ ?_
  · intro m
    exact br_t (by decide) hp
  · intro m i hi ih
    refine br_f (nI_ge (b := 3) hi (by decide)) ?_
    have key := xl_up (fun m' w => wY_init_82 post (wY_init_75 post (nI n) (nI (2 ^ n)) 0 m) (nI i) (nI n) (nI (2 ^ n)) 0 m' (nI w) (fa_F (oi_H n i) (64 * i) (fun _ => bi_I true) w) (fun _ => 0) (fun _ => 0) (fun _ => 0)) (2 ^ n) (fun m' => br_t (nI_le (Nat.le_refl _) (xw_W31 hn)) (nm_r (nI_1 i) ih)) (fun m' w hw jh => by
      have h1 := yw_ix (b := i) (w := w) (N := 192) (by omega) (by decide)
      refine br_f (nI_ge hw (xw_W31 hn)) (br_f (nI_ge (b := 64) (by omega) (by decide)) ⟨h1.1, nm_r (e' := fa_F (oi_H n i) (64 * i) (fun _ => bi_I true) (w + 1)) ?_ (nm_r (nI_1 w) jh)⟩)
      rw [h1.2, show vp_nar .boolean 1 = bi_I true from bi_v true]
      exact fa_s (oi_H n i) (64 * i) (fun _ => bi_I true) w)
    obtain ⟨m', hm⟩ := key
    refine ⟨m', ?_⟩
    have hm' : wY_init_82 post (wY_init_75 post (nI n) (nI (2 ^ n)) 0 m) (nI i) (nI n) (nI (2 ^ n)) 0 m' (nI 0) (fa_F (oi_H n i) (64 * i) (fun _ => bi_I true) 0) (fun _ => 0) (fun _ => 0) (fun _ => 0) := hm
    rw [fa_0] at hm'
    exact hm'
theorem oi_R {n : Nat} (hn : n < 7) (h2 : 2 ≤ n) : i_Rel 1 (nI n, nI (2 ^ n), bb_L (fun _ => true) (2 ^ n), nI 0, oi_B n 3, (fun _ => 0), oi_A n n) (nI n, nI (2 ^ n), nI 0, oi_H n 3, (fun _ => 0), (fun _ => 0), (fun _ => 0)) :=
  rl_mk (B := fun _ _ => true) (F := fun _ _ => true) ⟨⟨h2, hn, by omega⟩, fun b hb => oi_Blo n 3 b hb, fun j hj => absurd hj (by omega), fun v hv => oi_lo n n v hv, fun b hb w hw => oi_Hlo hn 3 b hb w hw, fun j hj => absurd hj (by omega)⟩
theorem i_vc0 (k0 : Int32) : wpX_init (fun u => wpY_init (fun v => i_Rel 1 u v) k0) k0 := by
  rcases pk_ix k0 (n := 7) (by decide) with h | h | ⟨j, hj, rfl⟩
  · have h1 : ¬ (2 : Int32) ≤ k0 := by
      intro z
      rw [Int32.le_iff_toInt_le] at z
      rw [Int32.lt_iff_toInt_lt] at h
      have e1 : (2 : Int32).toInt = 2 := by decide
      have e2 : (0 : Int32).toInt = 0 := by decide
      omega
    exact br_f h1 (oi_X (n := 2) (by decide) (by decide) (br_f h1 (oi_Y (n := 2) (by decide) (oi_R (by decide) (by decide)))))
  · have e1 : (nI 7).toInt = 7 := by decide
    have e2 : (2 : Int32).toInt = 2 := by decide
    have e3 : (6 : Int32).toInt = 6 := by decide
    rw [Int32.le_iff_toInt_le] at h
    have h1 : (2 : Int32) ≤ k0 := by rw [Int32.le_iff_toInt_le]; omega
    have h6 : ¬ k0 ≤ 6 := by intro z; rw [Int32.le_iff_toInt_le] at z; omega
    exact br_t h1 (br_f h6 (oi_X (n := 6) (by decide) (by decide) (br_t h1 (br_f h6 (oi_Y (n := 6) (by decide) (oi_R (by decide) (by decide)))))))
  · by_cases h2 : 2 ≤ j
    · have h1 : (2 : Int32) ≤ nI j := nI_le (a := 2) h2 (by omega)
      have h6 : nI j ≤ 6 := nI_le (b := 6) (by omega) (by decide)
      exact br_t h1 (br_t h6 (oi_X hj h2 (br_t h1 (br_t h6 (oi_Y hj (oi_R hj h2))))))
    · have h1 : ¬ (2 : Int32) ≤ nI j := nI_ge (b := 2) (by omega) (by decide)
      exact br_f h1 (oi_X (n := 2) (by decide) (by decide) (br_f h1 (oi_Y (n := 2) (by decide) (oi_R (by decide) (by decide)))))
end
