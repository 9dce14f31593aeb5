theorem pk_us {f : Nat → Int32} {k : Nat} {x : Int32} : upd f k x k = x := if_pos rfl
theorem pk_un {f : Nat → Int32} {k j : Nat} {x : Int32} (h : j ≠ k) : upd f k x j = f j := if_neg h
theorem pk_uLs {f : Nat → Int64} {k : Nat} {x : Int64} : vp_updL f k x k = x := if_pos rfl
theorem pk_uLn {f : Nat → Int64} {k j : Nat} {x : Int64} (h : j ≠ k) : vp_updL f k x j = f j := if_neg h
theorem pk_sub {a b : Nat} (h : b ≤ a) : nI a - nI b = nI (a - b) := by
  obtain ⟨c, rfl⟩ : ∃ c, a = c + b := ⟨a - b, by omega⟩
  rw [← nI_add, Int32.add_sub_cancel, Nat.add_sub_cancel]
theorem pk_m1 (n : Nat) : nI (n + 1) + (-1) = nI n := by
  rw [← nI_1, Int32.add_assoc, show (1 : Int32) + (-1) = 0 from rfl, Int32.add_zero]
theorem pk_mul (a b : Nat) : nI a * nI b = nI (a * b) := (Int32.ofNat_mul a b).symm
theorem pk_ix (x : Int32) {n : Nat} (hn : n < 2 ^ 31) : x < 0 ∨ nI n ≤ x ∨ ∃ j : Nat, j < n ∧ x = nI j := by
  by_cases h : x < 0
  · exact Or.inl h
  · obtain ⟨j, hj, rfl⟩ := nI_of h
    by_cases h2 : j < n
    · exact Or.inr (Or.inr ⟨j, h2, rfl⟩)
    · exact Or.inr (Or.inl (nI_le (by omega) hj))
theorem pk_le {x y : Int32} {A B : Prop} (a b : Nat) (f : a ≤ b → A) (g : b < a → B) (hx : x = nI a := by rfl) (hy : y = nI b := by rfl) (ha : a < 2 ^ 31 := by omega) (hb : b < 2 ^ 31 := by omega) : (x ≤ y → A) ∧ (¬ x ≤ y → B) := by
  subst hx hy
  rw [nI_leI ha hb]
  exact ⟨f, fun z => g (by omega)⟩
theorem pk_lt {x y : Int32} {A B : Prop} (a b : Nat) (f : a < b → A) (g : b ≤ a → B) (hx : x = nI a := by rfl) (hy : y = nI b := by rfl) (ha : a < 2 ^ 31 := by omega) (hb : b < 2 ^ 31 := by omega) : (x < y → A) ∧ (¬ x < y → B) := by
  subst hx hy
  rw [nI_ltI ha hb]
  exact ⟨f, fun z => g (by omega)⟩
theorem pk_eq {x y : Int32} {A B : Prop} (a b : Nat) (f : a = b → A) (g : a ≠ b → B) (hx : x = nI a := by rfl) (hy : y = nI b := by rfl) (ha : a < 2 ^ 31 := by omega) (hb : b < 2 ^ 31 := by omega) : (x = y → A) ∧ (¬ x = y → B) := by
  subst hx hy
  rw [nI_eq ha hb]
  exact ⟨f, g⟩
theorem pk_in {x : Int32} (n N : Nat) (h : n < N) (hx : x = nI n := by rfl) (hN : N < 2 ^ 31 := by omega) : vp_in x N := by
  subst hx
  exact vp_in_nI h hN
theorem pk_cl {x : Int32} (n : Nat) (hx : x = nI n := by rfl) (h : n < 2 ^ 31 := by omega) : x.toNatClampNeg = n := by
  subst hx
  exact nI_clamp h
theorem pk_tn {n : Nat} (h : n < 2 ^ 32) : (nI n).toBitVec.toNat = n := Nat.mod_eq_of_lt h
theorem pk_shl (a s : Int32) (k : Nat) (hs : (s.toBitVec.smod 32).toNat = k) : (a <<< s).toBitVec.toNat = a.toBitVec.toNat * 2 ^ k % 2 ^ 32 := by
  show (a.toBitVec <<< (s.toBitVec.smod 32).toNat).toNat = _
  rw [hs, BitVec.toNat_shiftLeft, Nat.shiftLeft_eq]
theorem pk_shlN {n : Nat} (s : Int32) (k : Nat) (hs : (s.toBitVec.smod 32).toNat = k) (h : n * 2 ^ k < 2 ^ 32) : nI n <<< s = nI (n * 2 ^ k) := by
  apply Int32.toBitVec_inj.mp
  apply BitVec.eq_of_toNat_eq
  have hn : n < 2 ^ 32 := Nat.lt_of_le_of_lt (Nat.le_mul_of_pos_right n (Nat.two_pow_pos k)) h
  rw [pk_shl _ _ k hs, pk_tn hn, pk_tn h, Nat.mod_eq_of_lt h]
theorem pk_loop {σ : Type} (W : Nat → Nat → σ → Prop) (I : Nat → σ → Prop) (e i0 : Nat) (s : σ) (hi : i0 ≤ e) (h0 : I i0 s) (hx : ∀ n s, I e s → W (n + 1) e s)
    (hs : ∀ n i s, i < e → I i s → (∀ s', I (i + 1) s' → W n (i + 1) s') → W (n + 1) i s) : ∃ n, W n i0 s :=
  ⟨e + 1, loop_i W I e hx hs (e + 1) i0 s hi (by omega) h0⟩
theorem nx_and (a b : Nat) : nI a &&& nI b = nI (a &&& b) := by
  apply Int32.toBitVec_inj.1
  show BitVec.ofNat 32 a &&& BitVec.ofNat 32 b = BitVec.ofNat 32 (a &&& b)
  apply BitVec.eq_of_getLsbD_eq
  intro i hi
  simp [hi]
theorem nx_xor (a b : Nat) : nI a ^^^ nI b = nI (a ^^^ b) := by
  apply Int32.toBitVec_inj.1
  show BitVec.ofNat 32 a ^^^ BitVec.ofNat 32 b = BitVec.ofNat 32 (a ^^^ b)
  apply BitVec.eq_of_getLsbD_eq
  intro i hi
  simp [hi]
theorem ts_nf {x : Bool} (h : ¬ x = false) : x = true := by cases x <;> first | rfl | exact absurd rfl h
theorem ts_nt {x : Bool} (h : ¬ x = true) : x = false := by cases x <;> first | rfl | exact absurd rfl h
theorem ts_bit {w : Int64} {s : UInt64} {j : Nat} (hj : j < 64) (hs : s.toNat = j) : ((w.toUInt64 >>> s).toInt64 &&& 1) = 0 ↔ w.toBitVec.getLsbD j = false := by
  have e : (w.toUInt64 >>> s).toInt64.toBitVec = w.toBitVec >>> j := by
    apply BitVec.eq_of_toNat_eq
    show (w.toUInt64 >>> s).toNat = _
    rw [UInt64.toNat_shiftRight, hs, Nat.mod_eq_of_lt hj, BitVec.toNat_ushiftRight]
    rfl
  rw [← Int64.toBitVec_inj, Int64.toBitVec_and, e]
  show w.toBitVec >>> j &&& 1#64 = 0#64 ↔ _
  constructor
  · intro h
    have t := congrArg (fun x => x.getLsbD 0) h
    simpa using t
  · intro h
    apply BitVec.eq_of_getLsbD_eq
    intro i hi
    cases i with
    | zero => simp [h]
    | succ i => simp
theorem wb_cu : ∀ k, k < 64 → ((nI k).toInt64.toUInt64 &&& Int64.toUInt64 63) = UInt64.ofNat k := by decide +kernel
theorem u_tn {n : Nat} (h : n < 2 ^ 64) : (UInt64.ofNat n).toNat = n := Nat.mod_eq_of_lt h
/-! a long as a set of worlds: its bits -/
def bb_g (x : Int64) (i : Nat) : Bool := x.toBitVec.getLsbD i
theorem bb_ext {x y : Int64} (h : ∀ i, i < 64 → bb_g x i = bb_g y i) : x = y := Int64.toBitVec_inj.mp (BitVec.eq_of_getLsbD_eq (fun i hi => h i hi))
theorem bb_or (x y : Int64) (i : Nat) : bb_g (x ||| y) i = (bb_g x i || bb_g y i) := by unfold bb_g; rw [Int64.toBitVec_or, BitVec.getLsbD_or]
theorem bb_and (x y : Int64) (i : Nat) : bb_g (x &&& y) i = (bb_g x i && bb_g y i) := by unfold bb_g; rw [Int64.toBitVec_and, BitVec.getLsbD_and]
theorem bb_xor (x y : Int64) (i : Nat) : bb_g (x ^^^ y) i = (bb_g x i ^^ bb_g y i) := by unfold bb_g; rw [Int64.toBitVec_xor, BitVec.getLsbD_xor]
theorem bb_0 (i : Nat) : bb_g 0 i = false := BitVec.getLsbD_zero
theorem bb_m1 : ∀ i, i < 64 → bb_g (-1) i = true := by decide +kernel
theorem bb_1 : ∀ i, i < 64 → bb_g 1 i = decide (i = 0) := by decide +kernel
theorem bb_not (x : Int64) {i : Nat} (hi : i < 64) : bb_g (x ^^^ (-1)) i = !bb_g x i := by rw [bb_xor, bb_m1 i hi, Bool.xor_true]
theorem bb_sl : ∀ n, n < 64 → (((nI n).toInt64 &&& 63).toBitVec.smod 64).toNat = n := by decide +kernel
theorem bb_su : ∀ n, n < 64 → (((nI n).toInt64.toUInt64 &&& Int64.toUInt64 63).toBitVec % 64).toNat = n := by decide +kernel
theorem bb_shl (n : Nat) (hn : n < 64) (x : Int64) {i : Nat} (hi : i < 64) : bb_g (x <<< ((nI n).toInt64 &&& 63)) i = (decide (n ≤ i) && bb_g x (i - n)) := by
  unfold bb_g
  rw [Int64.toBitVec_shiftLeft]
  show (x.toBitVec <<< (((nI n).toInt64 &&& 63).toBitVec.smod 64).toNat).getLsbD i = _
  rw [bb_sl n hn, BitVec.getLsbD_shiftLeft]
  rcases Nat.lt_or_ge i n with h | h
  · simp [h, Nat.not_le.mpr h]
  · simp [hi, h, Nat.not_lt.mpr h]
theorem bb_ushr (n : Nat) (hn : n < 64) (x : Int64) (i : Nat) : bb_g ((x.toUInt64 >>> ((nI n).toInt64.toUInt64 &&& Int64.toUInt64 63)).toInt64) i = bb_g x (n + i) := by
  show (x.toUInt64 >>> ((nI n).toInt64.toUInt64 &&& Int64.toUInt64 63)).toBitVec.getLsbD i = x.toUInt64.toBitVec.getLsbD (n + i)
  rw [UInt64.toBitVec_shiftRight]
  show (x.toUInt64.toBitVec >>> (((nI n).toInt64.toUInt64 &&& Int64.toUInt64 63).toBitVec % 64).toNat).getLsbD i = _
  rw [bb_su n hn, BitVec.getLsbD_ushiftRight]
theorem bb_bit {w i : Nat} (hw : w < 64) (hi : i < 64) : bb_g ((1 : Int64) <<< ((nI w).toInt64 &&& 63)) i = decide (w = i) := by
  rw [bb_shl w hw 1 hi, bb_1 (i - w) (by omega)]
  by_cases h : w = i
  · subst h; simp
  · rw [decide_eq_false h]
    by_cases h2 : w ≤ i
    · rw [decide_eq_false (show ¬ i - w = 0 by omega), Bool.and_false]
    · rw [decide_eq_false h2, Bool.false_and]
/-- the set S below m, as a long -/
def bb_L (S : Nat → Bool) : Nat → Int64
  | 0 => 0
  | m + 1 => if S m = true then bb_L S m ||| ((1 : Int64) <<< ((nI m).toInt64 &&& 63)) else bb_L S m
theorem bb_lts (i m : Nat) : decide (i < m + 1) = (decide (i < m) || decide (m = i)) := by
  by_cases h : i < m
  · rw [decide_eq_true h, decide_eq_true (show i < m + 1 by omega)]; rfl
  · by_cases h2 : m = i
    · rw [decide_eq_true h2, decide_eq_true (show i < m + 1 by omega), Bool.or_true]
    · rw [decide_eq_false h, decide_eq_false h2, decide_eq_false (show ¬ i < m + 1 by omega)]; rfl
theorem bb_gL (S : Nat → Bool) : ∀ m, m ≤ 64 → ∀ i, i < 64 → bb_g (bb_L S m) i = (decide (i < m) && S i) := by
  intro m
  induction m with
  | zero => intro _ i _; exact (bb_0 i).trans (by simp)
  | succ m ih =>
    intro hm i hi
    have e := ih (by omega) i hi
    rw [bb_lts]
    by_cases hs : S m = true
    · have e2 : bb_L S (m + 1) = bb_L S m ||| ((1 : Int64) <<< ((nI m).toInt64 &&& 63)) := if_pos hs
      rw [e2, bb_or, e, bb_bit (by omega) hi]
      by_cases h2 : m = i
      · subst h2; simp [hs]
      · rw [decide_eq_false h2, Bool.or_false, Bool.or_false]
    · have e2 : bb_L S (m + 1) = bb_L S m := if_neg hs
      rw [e2, e]
      by_cases h2 : m = i
      · subst h2; simp [ts_nt hs]
      · rw [decide_eq_false h2, Bool.or_false]
theorem bb_Lx {x : Int64} {S : Nat → Bool} {m : Nat} (hm : m ≤ 64) (h : ∀ i, i < 64 → bb_g x i = (decide (i < m) && S i)) : x = bb_L S m := bb_ext (fun i hi => by rw [h i hi, bb_gL S m hm i hi])
theorem bb_Lc {S T : Nat → Bool} : ∀ {m : Nat}, (∀ i, i < m → S i = T i) → bb_L S m = bb_L T m := by
  intro m
  induction m with
  | zero => intro _; rfl
  | succ m ih =>
    intro h
    show (if S m = true then bb_L S m ||| _ else bb_L S m) = (if T m = true then bb_L T m ||| _ else bb_L T m)
    rw [ih (fun i hi => h i (by omega)), h m (by omega)]
theorem bb_Land {S T : Nat → Bool} {m : Nat} (hm : m ≤ 64) : bb_L S m &&& bb_L T m = bb_L (fun w => S w && T w) m := bb_Lx hm (fun i hi => by
  rw [bb_and, bb_gL _ _ hm i hi, bb_gL _ _ hm i hi]
  show _ = (decide (i < m) && (S i && T i))
  cases decide (i < m) <;> cases S i <;> cases T i <;> rfl)
theorem bb_Lor {S T : Nat → Bool} {m : Nat} (hm : m ≤ 64) : bb_L S m ||| bb_L T m = bb_L (fun w => S w || T w) m := bb_Lx hm (fun i hi => by
  rw [bb_or, bb_gL _ _ hm i hi, bb_gL _ _ hm i hi]
  show _ = (decide (i < m) && (S i || T i))
  cases decide (i < m) <;> cases S i <;> cases T i <;> rfl)
theorem bb_Lxor {S T : Nat → Bool} {m : Nat} (hm : m ≤ 64) : bb_L S m ^^^ bb_L T m = bb_L (fun w => S w ^^ T w) m := bb_Lx hm (fun i hi => by
  rw [bb_xor, bb_gL _ _ hm i hi, bb_gL _ _ hm i hi]
  show _ = (decide (i < m) && (S i ^^ T i))
  cases decide (i < m) <;> cases S i <;> cases T i <;> rfl)
theorem bb_Ldiff {S T : Nat → Bool} {m : Nat} (hm : m ≤ 64) : bb_L S m &&& (bb_L T m ^^^ (-1)) = bb_L (fun w => S w && !T w) m := bb_Lx hm (fun i hi => by
  rw [bb_and, bb_not _ hi, bb_gL _ _ hm i hi, bb_gL _ _ hm i hi]
  show _ = (decide (i < m) && (S i && !T i))
  cases decide (i < m) <;> cases S i <;> cases T i <;> rfl)
theorem bb_Lset {S : Nat → Bool} {m w : Nat} (hm : m ≤ 64) (hw : w < m) : bb_L S m ||| ((1 : Int64) <<< ((nI w).toInt64 &&& 63)) = bb_L (fun i => S i || decide (w = i)) m := bb_Lx hm (fun i hi => by
  rw [bb_or, bb_gL _ _ hm i hi, bb_bit (by omega) hi]
  show _ = (decide (i < m) && (S i || decide (w = i)))
  by_cases h : w = i
  · subst h; rw [decide_eq_true hw]; cases S w <;> simp
  · rw [decide_eq_false h, Bool.or_false, Bool.or_false])
theorem bb_L1 {m w : Nat} (hm : m ≤ 64) (hw : w < m) : ((1 : Int64) <<< ((nI w).toInt64 &&& 63)) = bb_L (fun i => decide (w = i)) m := bb_Lx hm (fun i hi => by
  rw [bb_bit (by omega) hi]
  by_cases h : w = i
  · subst h; simp [hw]
  · rw [decide_eq_false h, Bool.and_false])
theorem bb_L0 (m : Nat) : bb_L (fun _ => false) m = 0 := by
  induction m with
  | zero => rfl
  | succ m ih => exact ih
theorem bb_in (x : Int64) {w : Nat} (hw : w < 64) : ((x.toUInt64 >>> ((nI w).toInt64.toUInt64 &&& Int64.toUInt64 63)).toInt64 &&& 1) = 0 ↔ bb_g x w = false :=
  ts_bit hw (by rw [wb_cu w hw]; exact u_tn (by omega))
theorem bb_Lin {S : Nat → Bool} {m w : Nat} (hm : m ≤ 64) (hw : w < m) : (((bb_L S m).toUInt64 >>> ((nI w).toInt64.toUInt64 &&& Int64.toUInt64 63)).toInt64 &&& 1) = 0 ↔ S w = false := by
  rw [bb_in _ (by omega), bb_gL _ _ hm w (by omega), decide_eq_true hw, Bool.true_and]
theorem bb_Lz {S : Nat → Bool} {m : Nat} (hm : m ≤ 64) : bb_L S m = 0 ↔ ∀ w, w < m → S w = false := by
  constructor
  · intro h w hw
    have e := bb_gL S m hm w (by omega)
    rw [h, bb_0, decide_eq_true hw, Bool.true_and] at e
    exact e.symm
  · intro h
    exact (bb_Lc h).trans (bb_L0 m)
/-! turning one variable -/
def bb_tF (n v i : Nat) : Bool := (decide (i ^^^ 2 ^ v = 2 ^ v + i) && Nat.testBit (2 ^ v + i) v) && ((decide (2 ^ v + i < 2 ^ n) == decide (i < 2 ^ n)) && (!decide (2 ^ v ≤ i) || Nat.testBit (i - 2 ^ v) v))
def bb_tT (v i : Nat) : Bool := (decide (2 ^ v ≤ i) && decide (i ^^^ 2 ^ v = i - 2 ^ v)) && (!Nat.testBit (i - 2 ^ v) v && !Nat.testBit (2 ^ v + i) v)
theorem bb_tF1 : ∀ n, n < 7 → ∀ v, v < n → ∀ i, i < 64 → (Nat.testBit i v || bb_tF n v i) = true := by decide +kernel
theorem bb_tT1 : ∀ v, v < 6 → ∀ i, i < 64 → (!Nat.testBit i v || bb_tT v i) = true := by decide +kernel
theorem bb_tnF (n : Nat) (hn : n < 7) (v : Nat) (hv : v < n) (i : Nat) (hi : i < 64) (hb : Nat.testBit i v = false) : (i ^^^ 2 ^ v = 2 ^ v + i ∧ Nat.testBit (2 ^ v + i) v = true) ∧ (decide (2 ^ v + i < 2 ^ n) = decide (i < 2 ^ n) ∧ (2 ^ v ≤ i → Nat.testBit (i - 2 ^ v) v = true)) := by
  have h := bb_tF1 n hn v hv i hi
  rw [hb, Bool.false_or, bb_tF, Bool.and_eq_true, Bool.and_eq_true, Bool.and_eq_true, decide_eq_true_eq, Bool.or_eq_true] at h
  obtain ⟨⟨h1, h2⟩, h3, h4⟩ := h
  refine ⟨⟨h1, h2⟩, eq_of_beq h3, fun z => h4.resolve_left (fun q => ?_)⟩
  rw [decide_eq_true z] at q
  exact absurd q (by decide)
theorem bb_tnT (n : Nat) (hn : n < 7) (v : Nat) (hv : v < n) (i : Nat) (hi : i < 64) (hb : Nat.testBit i v = true) : (2 ^ v ≤ i ∧ i ^^^ 2 ^ v = i - 2 ^ v) ∧ (Nat.testBit (i - 2 ^ v) v = false ∧ Nat.testBit (2 ^ v + i) v = false) := by
  have h := bb_tT1 v (by omega) i hi
  rw [hb, Bool.not_true, Bool.false_or, bb_tT, Bool.and_eq_true, Bool.and_eq_true, Bool.and_eq_true, decide_eq_true_eq, decide_eq_true_eq, Bool.not_eq_true', Bool.not_eq_true'] at h
  exact h
theorem bb_tnU : ∀ n, n < 7 → ∀ v, v < n → ∀ i, i < 64 → Nat.testBit i v = true → decide (i - 2 ^ v < 2 ^ n) = decide (i < 2 ^ n) := by decide +kernel
theorem bb_p2 : ∀ v, v < 6 → 2 ^ v < 64 := by decide
theorem bb_W : ∀ n, n < 7 → 2 ^ n ≤ 64 := by decide
theorem bb_step : ∀ v, v < 7 → (1 : Int32) <<< (nI v &&& 31) = nI (2 ^ v) := by decide +kernel
theorem bb_turn {n v : Nat} {S : Nat → Bool} (hn : n < 7) (hv : v < n) : (((bb_L S (2 ^ n) &&& bb_L (fun w => Nat.testBit w v) (2 ^ n)).toUInt64 >>> ((nI (2 ^ v)).toInt64.toUInt64 &&& Int64.toUInt64 63)).toInt64 ||| ((bb_L S (2 ^ n) &&& (bb_L (fun w => Nat.testBit w v) (2 ^ n) ^^^ (-1))) <<< ((nI (2 ^ v)).toInt64 &&& 63))) = bb_L (fun w => S (w ^^^ 2 ^ v)) (2 ^ n) := by
  have hW := bb_W n hn
  have hp := bb_p2 v (by omega)
  refine bb_Lx hW (fun i hi => ?_)
  rw [bb_or, bb_ushr _ hp, bb_shl _ hp _ hi, bb_Land hW, bb_Ldiff hW]
  have e2 : bb_g (bb_L (fun w => S w && !Nat.testBit w v) (2 ^ n)) (i - 2 ^ v) = (decide (i - 2 ^ v < 2 ^ n) && (S (i - 2 ^ v) && !Nat.testBit (i - 2 ^ v) v)) := bb_gL _ _ hW _ (Nat.lt_of_le_of_lt (Nat.sub_le _ _) hi)
  have e1 : bb_g (bb_L (fun w => S w && Nat.testBit w v) (2 ^ n)) (2 ^ v + i) = (decide (2 ^ v + i < 2 ^ n) && (S (2 ^ v + i) && Nat.testBit (2 ^ v + i) v)) := by
    by_cases h : 2 ^ v + i < 64
    · exact bb_gL _ _ hW _ h
    · rw [decide_eq_false (show ¬ 2 ^ v + i < 2 ^ n by omega), Bool.false_and]
      exact BitVec.getLsbD_of_ge _ _ (by omega)
  rw [e1, e2]
  show _ = (decide (i < 2 ^ n) && S (i ^^^ 2 ^ v))
  cases hb : Nat.testBit i v
  · obtain ⟨⟨h1, h2⟩, h3, h4⟩ := bb_tnF n hn v hv i hi hb
    rw [h1, h2, h3]
    by_cases hle : 2 ^ v ≤ i
    · rw [h4 hle]; simp
    · rw [decide_eq_false hle]; simp
  · obtain ⟨⟨h1, h2⟩, h3, h4⟩ := bb_tnT n hn v hv i hi hb
    have h5 := bb_tnU n hn v hv i hi hb
    rw [h2, h3, h4, h5, decide_eq_true h1]; simp
