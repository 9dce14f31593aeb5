section
variable {n : Nat} {e : Int64} {hI : Int32} {be fo on : Nat → Int64}
theorem xv_ilc {post : Int32 → Prop} {F : Nat → Bool} {w u : Nat} (hn : n < 7) (hw : w < 2 ^ n) (hu : u < 2 ^ n) (h : post (bi_I (!pu_nr F (2 ^ n) u w))) : wpX_isLeastChange post (nI n, nI (2 ^ n), e, hI, be, fo, on) (nI w) (nI u) (bb_L F (2 ^ n)) := by
  have hW := bb_W n hn
  have hwu := pm_xlt hw hu
  refine nm_r (nx_xor w u) (xl_find (fun x => F x && (decide (x ^^^ w ≠ u ^^^ w) && decide ((x ^^^ w) &&& (u ^^^ w) = x ^^^ w))) (fun m i => wX_isLeastChange_8 post (nI w) (bb_L F (2 ^ n)) (nI (w ^^^ u)) (nI n) (nI (2 ^ n)) e hI be fo on m (nI i)) (2 ^ n) ?_ ?_)
  · intro hf m
    have hf' : pu_nr F (2 ^ n) u w = false := hf
    rw [hf'] at h
    exact br_t (nI_le (Nat.le_refl _) (xw_W31 hn)) h
  · intro m i hi k1 k2
    have k1' : (F i && (decide (i ^^^ w ≠ u ^^^ w) && decide ((i ^^^ w) &&& (u ^^^ w) = i ^^^ w))) = false → wX_isLeastChange_8 post (nI w) (bb_L F (2 ^ n)) (nI (w ^^^ u)) (nI n) (nI (2 ^ n)) e hI be fo on m (nI (i + 1)) := k1
    have k2' : (F i && (decide (i ^^^ w ≠ u ^^^ w) && decide ((i ^^^ w) &&& (u ^^^ w) = i ^^^ w))) = true → pu_nr F (2 ^ n) u w = true := k2
    clear k1 k2
    rw [Nat.xor_comm i w, Nat.xor_comm u w] at k1' k2'
    have hwi := pm_xlt hw hi
    refine br_f (nI_ge hi (xw_W31 hn)) (nm_r (nx_xor w i) ?_)
    by_cases h1 : w ^^^ i = w ^^^ u
    · refine br_t (congrArg nI h1) (show wX_isLeastChange_45 _ _ _ _ _ _ _ _ _ _ _ _ _ _ from br_t rfl (nm_r (nI_1 i) (k1' ?_)))
      rw [decide_eq_false (fun z => z h1), Bool.false_and, Bool.and_false]
    · refine br_f (fun z => h1 ((nI_eq (by omega) (by omega)).mp z)) ?_
      by_cases h2 : (w ^^^ i) &&& (w ^^^ u) = w ^^^ i
      · refine br_t ((bi_part' (by omega) (by omega)).mpr h2) (br_f (by decide) (xw_inL hn hi ?_))
        rw [decide_eq_true h1, decide_eq_true h2] at k1' k2'
        cases hF : F i
        · exact br_t rfl (nm_r (nI_1 i) (k1' (by rw [hF]; rfl)))
        · refine br_f (by decide) ?_
          rw [k2' (by rw [hF]; rfl)] at h
          exact h
      · refine br_f (fun z => h2 ((bi_part' (by omega) (by omega)).mp z)) (show wX_isLeastChange_45 _ _ _ _ _ _ _ _ _ _ _ _ _ _ from br_t rfl (nm_r (nI_1 i) (k1' ?_)))
        rw [decide_eq_false h2, Bool.and_false, Bool.and_false]
theorem xv_lco {post : Int64 → Prop} {F : Nat → Bool} {w : Nat} (hn : n < 7) (hw : w < 2 ^ n) (h : post (bb_L (fun u => F u && !pu_nr F (2 ^ n) u w) (2 ^ n))) : wpX_leastChangesOf post (nI n, nI (2 ^ n), e, hI, be, fo, on) (nI w) (bb_L F (2 ^ n)) := by
  have hW := bb_W n hn
  have key := xl_up (fun m i => wX_leastChangesOf_6 post (nI w) (bb_L F (2 ^ n)) (nI n) (nI (2 ^ n)) e hI be fo on m (bb_L (bs_S (fun u => F u && !pu_nr F (2 ^ n) u w) i) (2 ^ n)) (nI i)) (2 ^ n)
    (fun m => br_t (nI_le (Nat.le_refl _) (xw_W31 hn)) (by rw [bs_e]; exact h))
    (fun m i hi ih => by
      refine br_f (nI_ge hi (xw_W31 hn)) (xw_inL hn hi ?_)
      have ih' : wX_leastChangesOf_6 post (nI w) (bb_L F (2 ^ n)) (nI n) (nI (2 ^ n)) e hI be fo on m (bb_L (bs_S (fun u => F u && !pu_nr F (2 ^ n) u w) (i + 1)) (2 ^ n)) (nI (i + 1)) := ih
      clear ih
      cases hF : F i
      · rw [bs_f (show (F i && !pu_nr F (2 ^ n) i w) = false by rw [hF]; rfl)] at ih'
        exact br_t rfl (nm_r (nI_1 i) ih')
      · refine br_f (by decide) (xv_ilc hn hw hi ?_)
        cases hp : pu_nr F (2 ^ n) i w
        · exact br_f (by decide) (nm_r (bs_t (show (F i && !pu_nr F (2 ^ n) i w) = true by rw [hF, hp]; rfl) hW hi) (nm_r (nI_1 i) ih'))
        · rw [bs_f (show (F i && !pu_nr F (2 ^ n) i w) = false by rw [hp]; simp)] at ih'
          exact br_t rfl (nm_r (nI_1 i) ih'))
  obtain ⟨m, hm⟩ := key
  refine ⟨m, ?_⟩
  have hm' : wX_leastChangesOf_6 post (nI w) (bb_L F (2 ^ n)) (nI n) (nI (2 ^ n)) e hI be fo on m (bb_L (bs_S (fun u => F u && !pu_nr F (2 ^ n) u w) 0) (2 ^ n)) (nI 0) := hm
  rw [bs_0] at hm'
  exact hm'
theorem xv_agree {post : Int32 → Prop} {S : Nat → Bool} {w s : Nat} (hn : n < 7) (hw : w < 2 ^ n) (hs : s < 2 ^ n) (h : post (bi_I (pm_ex (fun x => S x && decide (x &&& s = w &&& s)) (2 ^ n)))) : wpX_hasAgreeing post (nI n, nI (2 ^ n), e, hI, be, fo, on) (bb_L S (2 ^ n)) (nI w) (nI s) := by
  have hW := bb_W n hn
  refine xl_find (fun x => S x && decide (x &&& s = w &&& s)) (fun m i => wX_hasAgreeing_3 post (bb_L S (2 ^ n)) (nI w) (nI s) (nI n) (nI (2 ^ n)) e hI be fo on m (nI i)) (2 ^ n) ?_ ?_
  · intro hf m
    rw [hf] at h
    exact br_t (nI_le (Nat.le_refl _) (xw_W31 hn)) h
  · intro m i hi k1 k2
    refine br_f (nI_ge hi (xw_W31 hn)) (xw_inL hn hi ?_)
    have k1' : (S i && decide (i &&& s = w &&& s)) = false → wX_hasAgreeing_3 post (bb_L S (2 ^ n)) (nI w) (nI s) (nI n) (nI (2 ^ n)) e hI be fo on m (nI (i + 1)) := k1
    have k2' : (S i && decide (i &&& s = w &&& s)) = true → pm_ex (fun x => S x && decide (x &&& s = w &&& s)) (2 ^ n) = true := k2
    clear k1 k2
    cases hS : S i
    · exact br_t rfl (nm_r (nI_1 i) (k1' (by rw [hS]; rfl)))
    · refine br_f (by decide) ?_
      have hx : (i ^^^ w) &&& s < 2 ^ n := Nat.lt_of_le_of_lt Nat.and_le_left (pm_xlt hi hw)
      have e1 : (nI i ^^^ nI w) &&& nI s = nI ((i ^^^ w) &&& s) := by rw [nx_xor, nx_and]
      by_cases ha : i &&& s = w &&& s
      · refine br_t (e1.trans (by rw [(pu_agree i w s).mpr ha]; rfl)) ?_
        rw [k2' (by rw [hS, decide_eq_true ha]; rfl)] at h
        exact h
      · refine br_f (fun z => ha ((pu_agree i w s).mp ?_)) (nm_r (nI_1 i) (k1' (by rw [decide_eq_false ha, Bool.and_false])))
        exact (nI_eq (by omega) (by omega)).mp ((e1.symm.trans z).trans nI_0.symm)
theorem xv_bit {o v : Nat} (ho : o < 64) (hv : v < 6) : (((nI o).toUInt32 >>> ((nI v).toUInt32 &&& Int32.toUInt32 31)).toInt32 &&& 1) = 0 ↔ Nat.testBit o v = false := by
  rw [bi_valX o ho v hv, bi_0]
theorem xv_inside {post : Int64 → Prop} {B : Nat → Bool} {o : Nat} (hn : n < 7) (hon : ∀ v, v < n → on v = bb_L (fun w => Nat.testBit w v) (2 ^ n)) (ho : o < 2 ^ n) (h : post (bb_L (pq_in o B n) (2 ^ n))) : wpX_insideWhenOpen post (nI n, nI (2 ^ n), e, hI, be, fo, on) (nI o) (bb_L B (2 ^ n)) := by
  have hW := bb_W n hn
  refine xl_up (fun m i => wX_insideWhenOpen_6 post (nI o) (nI n) (nI (2 ^ n)) e hI be fo on m (bb_L (pq_in o B i) (2 ^ n)) (nI i)) n (fun m => br_t (nI_le (Nat.le_refl _) (by omega)) h) (fun m i hi ih => ?_)
  refine br_f (nI_ge hi (by omega)) ?_
  have ih' : wX_insideWhenOpen_6 post (nI o) (nI n) (nI (2 ^ n)) e hI be fo on m (bb_L (pq_in o B (i + 1)) (2 ^ n)) (nI (i + 1)) := ih
  clear ih
  cases hb : Nat.testBit o i
  · have e1 : pq_in o B (i + 1) = pq_in o B i := funext (fun w => if_neg (by rw [hb]; decide))
    rw [e1] at ih'
    exact br_t ((xv_bit (by omega) (by omega)).mpr hb) (nm_r (nI_1 i) ih')
  · have e1 : pq_in o B (i + 1) = fun w => pq_in o B i w && pq_in o B i (w ^^^ 2 ^ i) := funext (fun w => if_pos hb)
    rw [e1] at ih'
    exact br_f (fun z => absurd ((xv_bit (by omega) (by omega)).mp z) (by rw [hb]; decide)) (xw_turn hn hon hi (nm_r (bb_Land hW) (nm_r (nI_1 i) ih')))
theorem xv_pop {post : Int32 → Prop} {B : Nat → Bool} {o : Nat} (hn : n < 7) (hon : ∀ v, v < n → on v = bb_L (fun w => Nat.testBit w v) (2 ^ n)) (ho : o < 2 ^ n) (h : post (nI (pm_cn (pq_px n o B n) (2 ^ n)))) : wpX_primesOpenIn post (nI n, nI (2 ^ n), e, hI, be, fo, on) (nI o) (bb_L B (2 ^ n)) := by
  have hW := bb_W n hn
  refine xv_inside hn hon ho ?_
  refine xl_up (fun m i => wX_primesOpenIn_15 post (nI o) (bb_L (pq_in o B n) (2 ^ n)) (nI n) (nI (2 ^ n)) e hI be fo on m (bb_L (pq_px n o B i) (2 ^ n)) (nI i)) n (fun m => br_t (nI_le (Nat.le_refl _) (by omega)) (xw_size hn h)) (fun m i hi ih => ?_)
  refine br_f (nI_ge hi (by omega)) ?_
  have ih' : wX_primesOpenIn_15 post (nI o) (bb_L (pq_in o B n) (2 ^ n)) (nI n) (nI (2 ^ n)) e hI be fo on m (bb_L (pq_px n o B (i + 1)) (2 ^ n)) (nI (i + 1)) := ih
  clear ih
  cases hb : Nat.testBit o i
  · have e1 : pq_px n o B (i + 1) = fun w => pq_px n o B i w && !pq_in o B n (w ^^^ 2 ^ i) := funext (fun w => if_neg (by rw [hb]; decide))
    rw [e1] at ih'
    exact br_t ((xv_bit (by omega) (by omega)).mpr hb) (xw_turn hn hon hi (nm_r (bb_Ldiff hW) (nm_r (nI_1 i) ih')))
  · have e1 : pq_px n o B (i + 1) = fun w => pq_px n o B i w && !Nat.testBit w i := funext (fun w => if_pos hb)
    rw [e1] at ih'
    refine br_f (fun z => absurd ((xv_bit (by omega) (by omega)).mp z) (by rw [hb]; decide)) ⟨vp_in_nI (by omega) (by decide), nm_r ?_ (nm_r (nI_1 i) ih')⟩
    rw [nI_clamp (by omega), hon i hi]
    exact bb_Ldiff hW
end
