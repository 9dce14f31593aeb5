/-! a new object -/
def oi_A (n : Nat) : Nat → Nat → Int64
  | 0 => fun _ => 0
  | i + 1 => vp_updL (oi_A n i) i (bb_L (fun w => Nat.testBit w i) (2 ^ n))
theorem oi_hi (n : Nat) : ∀ i j, i ≤ j → oi_A n i j = 0 := by
  intro i
  induction i with
  | zero => intro j _; rfl
  | succ i ih =>
    intro j hj
    show vp_updL (oi_A n i) i _ j = 0
    rw [pk_uLn (by omega)]
    exact ih j (by omega)
theorem oi_lo (n : Nat) : ∀ i v, v < i → oi_A n i v = bb_L (fun w => Nat.testBit w v) (2 ^ n) := by
  intro i
  induction i with
  | zero => intro v hv; omega
  | succ i ih =>
    intro v hv
    show vp_updL (oi_A n i) i _ v = _
    by_cases e : v = i
    · subst e; rw [pk_uLs]
    · rw [pk_uLn e]; exact ih v (by omega)
theorem oi_uu (a : Nat → Int64) (i : Nat) (x y : Int64) : vp_updL (vp_updL a i x) i y = vp_updL a i y := funext (fun j => by
  unfold vp_updL
  by_cases e : j = i
  · rw [if_pos e, if_pos e]
  · rw [if_neg e, if_neg e, if_neg e])
theorem oi_us (a : Nat → Int64) (i : Nat) (x : Int64) (h : a i = x) : vp_updL a i x = a := funext (fun j => by
  unfold vp_updL
  by_cases e : j = i
  · rw [if_pos e, e, h]
  · rw [if_neg e])
def oi_B (n : Nat) : Nat → Nat → Int64
  | 0 => fun _ => 0
  | i + 1 => vp_updL (oi_B n i) i (bb_L (fun _ => true) (2 ^ n))
theorem oi_Blo (n : Nat) : ∀ i v, v < i → oi_B n i v = bb_L (fun _ => true) (2 ^ n) := by
  intro i
  induction i with
  | zero => intro v hv; omega
  | succ i ih =>
    intro v hv
    show vp_updL (oi_B n i) i _ v = _
    by_cases e : v = i
    · subst e; rw [pk_uLs]
    · rw [pk_uLn e]; exact ih v (by omega)
theorem oi_E : ∀ n, n < 7 → 2 ≤ n → ((-1 : Int64).toUInt64 >>> ((64 - nI (2 ^ n)).toInt64.toUInt64 &&& Int64.toUInt64 63)).toInt64 = bb_L (fun _ => true) (2 ^ n) := by decide +kernel
theorem oi_X {n : Nat} {post : SX → Prop} {g1 g2 : Int32} {g3 : Int64} {g4 : Int32} (hn : n < 7) (h2 : 2 ≤ n) (hp : post (nI n, nI (2 ^ n), bb_L (fun _ => true) (2 ^ n), nI 0, oi_B n 3, (fun _ => 0), oi_A n n)) : wX_init_49 post (nI n) g1 g2 g3 g4 (fun _ => 0) (fun _ => 0) (fun _ => 0) := by
  have hW := bb_W n hn
  refine nm_r (bb_step n hn) (nm_r (oi_E n hn h2) ?_)
  refine xl_up (fun m i => wX_init_84 post (nI n) (nI (2 ^ n)) (bb_L (fun _ => true) (2 ^ n)) 0 m (nI i) (fun _ => 0) (fun _ => 0) (oi_A n i)) n ?_ ?_
  · intro m
    refine br_t (nI_le (Nat.le_refl _) (by omega)) ?_
    refine xl_up (fun m i => wX_init_136 post (nI n) (nI (2 ^ n)) (bb_L (fun _ => true) (2 ^ n)) 0 m (nI i) (oi_B n i) (fun _ => 0) (oi_A n n)) 3 ?_ ?_
    · intro m
      exact br_t (by decide) hp
    · intro m i hi ih
      exact br_f (nI_ge (b := 3) hi (by decide)) ⟨vp_in_nI hi (by decide), nm_r (congrArg (fun k => vp_updL (oi_B n i) k (bb_L (fun _ => true) (2 ^ n))) (nI_clamp (show i < 2 ^ 31 by omega))) (nm_r (nI_1 i) ih)⟩
  · intro m i hi ih
    refine br_f (nI_ge hi (by omega)) ?_
    have key := xl_up (fun m' w => wX_init_94 post (wX_init_84 post (nI n) (nI (2 ^ n)) (bb_L (fun _ => true) (2 ^ n)) 0 m) (nI i) (nI n) (nI (2 ^ n)) (bb_L (fun _ => true) (2 ^ n)) 0 m' (nI w) (fun _ => 0) (fun _ => 0) (vp_updL (oi_A n i) i (bb_L (bs_S (fun x => Nat.testBit x i) w) (2 ^ n)))) (2 ^ n) (fun m' => by
      refine br_t (nI_le (Nat.le_refl _) (xw_W31 hn)) (nm_r (nI_1 i) ?_)
      rw [bs_e]
      exact ih) (fun m' w hw jh => by
      refine br_f (nI_ge hw (xw_W31 hn)) ?_
      have jh' : wX_init_94 post (wX_init_84 post (nI n) (nI (2 ^ n)) (bb_L (fun _ => true) (2 ^ n)) 0 m) (nI i) (nI n) (nI (2 ^ n)) (bb_L (fun _ => true) (2 ^ n)) 0 m' (nI (w + 1)) (fun _ => 0) (fun _ => 0) (vp_updL (oi_A n i) i (bb_L (bs_S (fun x => Nat.testBit x i) (w + 1)) (2 ^ n))) := jh
      clear jh
      have hin : vp_in (nI i) 6 := vp_in_nI (by omega) (by decide)
      have hc : (nI i).toNatClampNeg = i := nI_clamp (by omega)
      cases hb : Nat.testBit w i
      · rw [bs_f (P := fun x => Nat.testBit x i) hb] at jh'
        exact br_t ((xv_bit (by omega) (by omega)).mpr hb) (nm_r (nI_1 w) jh')
      · refine br_f (fun z => absurd ((xv_bit (by omega) (by omega)).mp z) (by rw [hb]; decide)) ⟨hin, hin, nm_r (e' := vp_updL (oi_A n i) i (bb_L (bs_S (fun x => Nat.testBit x i) (w + 1)) (2 ^ n))) ?_ (nm_r (nI_1 w) jh')⟩
        rw [hc, pk_uLs, oi_uu, bs_t (P := fun x => Nat.testBit x i) hb hW hw])
    obtain ⟨m', hm⟩ := key
    refine ⟨m', ?_⟩
    have hm' : wX_init_94 post (wX_init_84 post (nI n) (nI (2 ^ n)) (bb_L (fun _ => true) (2 ^ n)) 0 m) (nI i) (nI n) (nI (2 ^ n)) (bb_L (fun _ => true) (2 ^ n)) 0 m' (nI 0) (fun _ => 0) (fun _ => 0) (vp_updL (oi_A n i) i (bb_L (bs_S (fun x => Nat.testBit x i) 0) (2 ^ n))) := hm
    rw [bs_0, oi_us _ _ _ (oi_hi n i i (Nat.le_refl i))] at hm'
    exact hm'
def oi_H (n : Nat) : Nat → Nat → Int32
  | 0 => fun _ => 0
  | b + 1 => fa_F (oi_H n b) (64 * b) (fun _ => bi_I true) (2 ^ n)
theorem oi_Hlo {n : Nat} (hn : n < 7) : ∀ m b, b < m → ∀ w, w < 2 ^ n → oi_H n m (64 * b + w) = bi_I true := by
  have hW := bb_W n hn
  intro m
  induction m with
  | zero => intro b hb; omega
  | succ m ih =>
    intro b hb w hw
    show fa_F (oi_H n m) (64 * m) (fun _ => bi_I true) (2 ^ n) (64 * b + w) = bi_I true
    by_cases e : b = m
    · subst e; exact fa_in hw
    · rw [fa_out (by omega)]; exact ih b (by omega) w hw
theorem oi_Y {n : Nat} {post : SY → Prop} {g1 g2 : Int32} (hn : n < 7) (hp : post (nI n, nI (2 ^ n), nI 0, oi_H n 3, (fun _ => 0), (fun _ => 0), (fun _ => 0))) : wY_init_60 post (nI n) g1 g2 0 (fun _ => 0) (fun _ => 0) (fun _ => 0) (fun _ => 0) := by
  have hW := bb_W n hn
  refine nm_r (bb_step n hn) ?_
  refine xl_up (fun m i => wY_init_75 post (nI n) (nI (2 ^ n)) 0 m (nI i) (oi_H n i) (fun _ => 0) (fun _ => 0) (fun _ => 0)) 3 ?_ ?_
  · intro m
    exact br_t (by decide) hp
  · intro m i hi ih
    refine br_f (nI_ge (b := 3) hi (by decide)) ?_
    have key := xl_up (fun m' w => wY_init_82 post (wY_init_75 post (nI n) (nI (2 ^ n)) 0 m) (nI i) (nI n) (nI (2 ^ n)) 0 m' (nI w) (fa_F (oi_H n i) (64 * i) (fun _ => bi_I true) w) (fun _ => 0) (fun _ => 0) (fun _ => 0)) (2 ^ n) (fun m' => br_t (nI_le (Nat.le_refl _) (xw_W31 hn)) (nm_r (nI_1 i) ih)) (fun m' w hw jh => by
      have h1 := yw_ix (b := i) (w := w) (N := 192) (by omega) (by decide)
      refine br_f (nI_ge hw (xw_W31 hn)) (br_f (nI_ge (b := 64) (by omega) (by decide)) ⟨h1.1, nm_r (e' := fa_F (oi_H n i) (64 * i) (fun _ => bi_I true) (w + 1)) ?_ (nm_r (nI_1 w) jh)⟩)
      rw [h1.2, show vp_nar .boolean 1 = bi_I true from bi_v true]
      exact fa_s (oi_H n i) (64 * i) (fun _ => bi_I true) w)
    obtain ⟨m', hm⟩ := key
    refine ⟨m', ?_⟩
    have hm' : wY_init_82 post (wY_init_75 post (nI n) (nI (2 ^ n)) 0 m) (nI i) (nI n) (nI (2 ^ n)) 0 m' (nI 0) (fa_F (oi_H n i) (64 * i) (fun _ => bi_I true) 0) (fun _ => 0) (fun _ => 0) (fun _ => 0) := hm
    rw [fa_0] at hm'
    exact hm'
theorem oi_R {n : Nat} (hn : n < 7) (h2 : 2 ≤ n) : i_Rel 1 (nI n, nI (2 ^ n), bb_L (fun _ => true) (2 ^ n), nI 0, oi_B n 3, (fun _ => 0), oi_A n n) (nI n, nI (2 ^ n), nI 0, oi_H n 3, (fun _ => 0), (fun _ => 0), (fun _ => 0)) :=
  rl_mk (B := fun _ _ => true) (F := fun _ _ => true) ⟨⟨h2, hn, by omega⟩, fun b hb => oi_Blo n 3 b hb, fun j hj => absurd hj (by omega), fun v hv => oi_lo n n v hv, fun b hb w hw => oi_Hlo hn 3 b hb w hw, fun j hj => absurd hj (by omega)⟩
theorem i_vc0 (k0 : Int32) : wpX_init (fun u => wpY_init (fun v => i_Rel 1 u v) k0) k0 := by
  rcases pk_ix k0 (n := 7) (by decide) with h | h | ⟨j, hj, rfl⟩
  · have h1 : ¬ (2 : Int32) ≤ k0 := by
      intro z
      rw [Int32.le_iff_toInt_le] at z
      rw [Int32.lt_iff_toInt_lt] at h
      have e1 : (2 : Int32).toInt = 2 := by decide
      have e2 : (0 : Int32).toInt = 0 := by decide
      omega
    exact br_f h1 (oi_X (n := 2) (by decide) (by decide) (br_f h1 (oi_Y (n := 2) (by decide) (oi_R (by decide) (by decide)))))
  · have e1 : (nI 7).toInt = 7 := by decide
    have e2 : (2 : Int32).toInt = 2 := by decide
    have e3 : (6 : Int32).toInt = 6 := by decide
    rw [Int32.le_iff_toInt_le] at h
    have h1 : (2 : Int32) ≤ k0 := by rw [Int32.le_iff_toInt_le]; omega
    have h6 : ¬ k0 ≤ 6 := by intro z; rw [Int32.le_iff_toInt_le] at z; omega
    exact br_t h1 (br_f h6 (oi_X (n := 6) (by decide) (by decide) (br_t h1 (br_f h6 (oi_Y (n := 6) (by decide) (oi_R (by decide) (by decide)))))))
  · by_cases h2 : 2 ≤ j
    · have h1 : (2 : Int32) ≤ nI j := nI_le (a := 2) h2 (by omega)
      have h6 : nI j ≤ 6 := nI_le (b := 6) (by omega) (by decide)
      exact br_t h1 (br_t h6 (oi_X hj h2 (br_t h1 (br_t h6 (oi_Y hj (oi_R hj h2))))))
    · have h1 : ¬ (2 : Int32) ≤ nI j := nI_ge (b := 2) (by omega) (by decide)
      exact br_f h1 (oi_X (n := 2) (by decide) (by decide) (br_f h1 (oi_Y (n := 2) (by decide) (oi_R (by decide) (by decide)))))
