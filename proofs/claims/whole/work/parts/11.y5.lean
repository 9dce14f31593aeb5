/-! the reference's defined and primes -/
section
variable {n h : Nat} {hI : Int32} {he fm re fa : Nat → Int32}
theorem yt_76 {post : Int32 → Prop} {J39 J51 : Int32 → Prop} {B : Nat → Bool} {b v i j : Nat} {c : Bool} {x3 : Int32} (hn : n < 7) (hb : b < 3) (hv : v < n) (hi : i < 2 ^ n) (hj : j < 2 ^ n) (hB : ∀ w, w < 2 ^ n → he (64 * b + w) = bi_I (B w)) (kn : (((B i && B j) && c) && (Nat.testBit i v != Nat.testBit j v)) = false → J51 (nI (j + 1))) (kf : (((B i && B j) && c) && (Nat.testBit i v != Nat.testBit j v)) = true → post 0) : wY_defined_76 post J39 J51 (nI b) (nI v) x3 (nI i) (nI j) (bi_I c) (nI n) (nI (2 ^ n)) hI he fm re fa := by
  have hW := bb_W n hn
  refine yw_in hb (by omega) (hB i hi) ?_
  cases h1 : B i
  · exact br_t rfl (nm_r (nI_1 j) (kn (by rw [h1]; rfl)))
  · refine br_f (by decide) (yw_in hb (by omega) (hB j hj) ?_)
    cases h2 : B j
    · exact br_t rfl (nm_r (nI_1 j) (kn (by rw [h2]; simp)))
    · refine br_f (by decide) ?_
      cases c
      · exact br_t rfl (nm_r (nI_1 j) (kn (by simp)))
      · refine br_f (by decide) (yw_val (by omega) (by omega) (yw_val (by omega) (by omega) ?_))
        by_cases h3 : Nat.testBit i v = Nat.testBit j v
        · exact br_t ((bi_eq _ _).mpr h3) (nm_r (nI_1 j) (kn (by rw [h3]; simp)))
        · exact br_f (fun z => h3 ((bi_eq _ _).mp z)) (kf (by
            rw [h1, h2]
            revert h3
            cases Nat.testBit i v <;> cases Nat.testBit j v <;> simp))
theorem ys_defined {post : Int32 → Prop} {B : Nat → Bool} {b v s : Nat} (hn : n < 7) (hb : b < 3) (hv : v < n) (hs : s < 2 ^ n) (hB : ∀ w, w < 2 ^ n → he (64 * b + w) = bi_I (B w)) (hp : post (bi_I (!pm_ex (fun u => pm_ex (fun w => ((B u && B w) && decide (u &&& s = w &&& s)) && (Nat.testBit u v != Nat.testBit w v)) (2 ^ n)) (2 ^ n)))) : ∃ m, wY_defined_39 post (nI b) (nI v) (nI s) (nI n) (nI (2 ^ n)) hI he fm re fa m 0 := by
  have hW := bb_W n hn
  refine xl_find (fun u => pm_ex (fun w => ((B u && B w) && decide (u &&& s = w &&& s)) && (Nat.testBit u v != Nat.testBit w v)) (2 ^ n)) (fun m i => wY_defined_39 post (nI b) (nI v) (nI s) (nI n) (nI (2 ^ n)) hI he fm re fa m (nI i)) (2 ^ n) ?_ ?_
  · intro hf m
    rw [hf] at hp
    exact br_t (nI_le (Nat.le_refl _) (xw_W31 hn)) hp
  · intro m i hi k1 k2
    refine br_f (nI_ge hi (xw_W31 hn)) ?_
    refine xl_find (fun w => ((B i && B w) && decide (i &&& s = w &&& s)) && (Nat.testBit i v != Nat.testBit w v)) (fun m' j => wY_defined_51 post (wY_defined_39 post (nI b) (nI v) (nI s) (nI n) (nI (2 ^ n)) hI he fm re fa m) (nI b) (nI v) (nI s) (nI i) (nI n) (nI (2 ^ n)) hI he fm re fa m' (nI j)) (2 ^ n) ?_ ?_
    · intro hf m'
      exact br_t (nI_le (Nat.le_refl _) (xw_W31 hn)) (nm_r (nI_1 i) (k1 hf))
    · intro m' j hj q1 q2
      refine br_f (nI_ge hj (xw_W31 hn)) ?_
      have ha : i &&& s < 2 ^ n := Nat.lt_of_le_of_lt Nat.and_le_left hi
      have hc : j &&& s < 2 ^ n := Nat.lt_of_le_of_lt Nat.and_le_left hj
      have kf : (((B i && B j) && decide (i &&& s = j &&& s)) && (Nat.testBit i v != Nat.testBit j v)) = true → post 0 := fun z => by
        rw [k2 (q2 z)] at hp
        exact hp
      by_cases he : i &&& s = j &&& s
      · refine br_t (by rw [nx_and, nx_and, he]) ?_
        rw [decide_eq_true he] at kf
        refine yt_76 (c := true) hn hb hv hi hj hB (fun z => q1 ?_) kf
        show (((B i && B j) && decide (i &&& s = j &&& s)) && (Nat.testBit i v != Nat.testBit j v)) = false
        rw [decide_eq_true he]; exact z
      · refine br_f (fun z => he ?_) ?_
        · rw [nx_and, nx_and] at z
          exact (nI_eq (by omega) (by omega)).mp z
        · rw [decide_eq_false he] at kf
          refine yt_76 (c := false) hn hb hv hi hj hB (fun z => q1 ?_) kf
          show (((B i && B j) && decide (i &&& s = j &&& s)) && (Nat.testBit i v != Nat.testBit j v)) = false
          rw [decide_eq_false he]; exact z
theorem yw_inside {post : Int32 → Prop} {B : Nat → Bool} {b f c : Nat} (hn : n < 7) (hb : b < 3) (hf : f < 64) (hc : c < 64) (hB : ∀ w, w < 2 ^ n → he (64 * b + w) = bi_I (B w)) (hp : post (bi_I (pq_iy n f c B))) : wpY_inside post (nI n, nI (2 ^ n), hI, he, fm, re, fa) (nI b) (nI f) (nI c) := by
  have hW := bb_W n hn
  unfold pq_iy at hp
  refine xl_find (fun x => decide (x &&& f = c) && !B x) (fun m i => wY_inside_3 post (nI b) (nI f) (nI c) (nI n) (nI (2 ^ n)) hI he fm re fa m (nI i)) (2 ^ n) ?_ ?_
  · intro hq m
    rw [hq] at hp
    exact br_t (nI_le (Nat.le_refl _) (xw_W31 hn)) hp
  · intro m i hi k1 k2
    have k1' : (decide (i &&& f = c) && !B i) = false → wY_inside_3 post (nI b) (nI f) (nI c) (nI n) (nI (2 ^ n)) hI he fm re fa m (nI (i + 1)) := k1
    have k2' : (decide (i &&& f = c) && !B i) = true → pm_ex (fun x => decide (x &&& f = c) && !B x) (2 ^ n) = true := k2
    clear k1 k2
    have ha : i &&& f < 2 ^ n := Nat.lt_of_le_of_lt Nat.and_le_left hi
    refine br_f (nI_ge hi (xw_W31 hn)) ?_
    by_cases he : i &&& f = c
    · refine br_t (by rw [nx_and, he]) (yw_in hb (by omega) (hB i hi) ?_)
      cases hq : B i
      · refine br_t rfl ?_
        rw [k2' (by rw [decide_eq_true he, hq]; rfl)] at hp
        exact hp
      · exact br_f (by decide) (nm_r (nI_1 i) (k1' (by rw [hq]; simp)))
    · refine br_f (fun z => he ?_) (nm_r (nI_1 i) (k1' (by rw [decide_eq_false he]; rfl)))
      rw [nx_and] at z
      exact (nI_eq (by omega) (by omega)).mp z
theorem yw_prime {post : Int32 → Prop} {B : Nat → Bool} {b f w : Nat} (hn : n < 7) (hb : b < 3) (hf : f < 64) (hw : w < 64) (hB : ∀ w, w < 2 ^ n → he (64 * b + w) = bi_I (B w)) (hp : post (bi_I (pq_py n f w B))) : wpY_prime post (nI n, nI (2 ^ n), hI, he, fm, re, fa) (nI b) (nI f) (nI w) := by
  have hW := bb_W n hn
  unfold pq_py at hp
  refine yw_inside hn hb hf hw hB ?_
  cases h0 : pq_iy n f w B
  · rw [h0] at hp
    exact br_t rfl hp
  · rw [h0, Bool.true_and] at hp
    refine br_f (by decide) ?_
    refine xl_find (fun v => decide (pq_fv f v ≠ f) && pq_iy n (pq_fv f v) (w &&& pq_fv f v) B) (fun m i => wY_prime_15 post (nI b) (nI f) (nI w) (nI n) (nI (2 ^ n)) hI he fm re fa m (nI i)) n ?_ ?_
    · intro hq m
      rw [hq] at hp
      exact br_t (nI_le (Nat.le_refl _) (by omega)) hp
    · intro m i hi k1 k2
      have k1' : (decide (pq_fv f i ≠ f) && pq_iy n (pq_fv f i) (w &&& pq_fv f i) B) = false → wY_prime_15 post (nI b) (nI f) (nI w) (nI n) (nI (2 ^ n)) hI he fm re fa m (nI (i + 1)) := k1
      have k2' : (decide (pq_fv f i ≠ f) && pq_iy n (pq_fv f i) (w &&& pq_fv f i) B) = true → pm_ex (fun v => decide (pq_fv f v ≠ f) && pq_iy n (pq_fv f v) (w &&& pq_fv f v) B) n = true := k2
      clear k1 k2
      have hfv := bi_fv f hf i (by omega)
      have ha : w &&& pq_fv f i < 64 := Nat.lt_of_le_of_lt Nat.and_le_left hw
      refine br_f (nI_ge hi (by omega)) (nm_r hfv.1 ?_)
      by_cases he : pq_fv f i = f
      · exact br_t (congrArg nI he) (nm_r (nI_1 i) (k1' (by rw [decide_eq_false (fun z => z he)]; rfl)))
      · refine br_f (fun z => he ((nI_eq (by omega) (by omega)).mp z)) ?_
        rw [nx_and]
        refine yw_inside hn hb hfv.2 ha hB ?_
        cases hq : pq_iy n (pq_fv f i) (w &&& pq_fv f i) B
        · exact br_t rfl (nm_r (nI_1 i) (k1' (by rw [hq]; simp)))
        · refine br_f (by decide) ?_
          rw [k2' (by rw [hq, decide_eq_true he]; rfl)] at hp
          exact hp
theorem ys_primes {post : Int32 → Prop} {B : Nat → Bool} {b : Nat} (hn : n < 7) (hb : b < 3) (hB : ∀ w, w < 2 ^ n → he (64 * b + w) = bi_I (B w)) (hp : post (nI (pm_sm (fun f => pm_cn (fun w => decide (w &&& f = w) && pq_py n f w B) (2 ^ n)) (2 ^ n)))) : ∃ m, wY_primes_14 post (nI b) (nI n) (nI (2 ^ n)) hI he fm re fa m 0 0 := by
  have hW := bb_W n hn
  refine xl_up (fun m i => wY_primes_14 post (nI b) (nI n) (nI (2 ^ n)) hI he fm re fa m (nI (pm_sm (fun f => pm_cn (fun w => decide (w &&& f = w) && pq_py n f w B) (2 ^ n)) i)) (nI i)) (2 ^ n) (fun m => br_t (nI_le (Nat.le_refl _) (xw_W31 hn)) hp) (fun m i hi ih => ?_)
  refine br_f (nI_ge hi (xw_W31 hn)) ?_
  have ih' : wY_primes_14 post (nI b) (nI n) (nI (2 ^ n)) hI he fm re fa m (nI (pm_sm (fun f => pm_cn (fun w => decide (w &&& f = w) && pq_py n f w B) (2 ^ n)) i + pm_cn (fun w => decide (w &&& i = w) && pq_py n i w B) (2 ^ n))) (nI (i + 1)) := ih
  clear ih
  generalize pm_sm (fun f => pm_cn (fun w => decide (w &&& f = w) && pq_py n f w B) (2 ^ n)) i = T at ih' ⊢
  have key := xl_up (fun m' j => wY_primes_25 post (wY_primes_14 post (nI b) (nI n) (nI (2 ^ n)) hI he fm re fa m) (nI b) (nI i) (nI n) (nI (2 ^ n)) hI he fm re fa m' (nI (T + pm_cn (fun w => decide (w &&& i = w) && pq_py n i w B) j)) (nI j)) (2 ^ n) (fun m' => br_t (nI_le (Nat.le_refl _) (xw_W31 hn)) (nm_r (nI_1 i) ih')) (fun m' j hj jh => by
    refine br_f (nI_ge hj (xw_W31 hn)) ?_
    have jh' : wY_primes_25 post (wY_primes_14 post (nI b) (nI n) (nI (2 ^ n)) hI he fm re fa m) (nI b) (nI i) (nI n) (nI (2 ^ n)) hI he fm re fa m' (nI (T + pm_cn (fun w => decide (w &&& i = w) && pq_py n i w B) (j + 1))) (nI (j + 1)) := jh
    clear jh
    have ha : j &&& i < 2 ^ n := Nat.lt_of_le_of_lt Nat.and_le_left hj
    by_cases hq : j &&& i = j
    · refine br_t (by rw [nx_and, hq]) (yw_prime hn hb (by omega) (by omega) hB ?_)
      cases h2 : pq_py n i j B
      · have e1 : pm_cn (fun w => decide (w &&& i = w) && pq_py n i w B) (j + 1) = pm_cn (fun w => decide (w &&& i = w) && pq_py n i w B) j := if_neg (by
          show ¬ (decide (j &&& i = j) && pq_py n i j B) = true
          rw [h2]; simp)
        rw [e1] at jh'
        exact br_t rfl (nm_r (nI_1 j) jh')
      · have e1 : pm_cn (fun w => decide (w &&& i = w) && pq_py n i w B) (j + 1) = pm_cn (fun w => decide (w &&& i = w) && pq_py n i w B) j + 1 := if_pos (by
          show (decide (j &&& i = j) && pq_py n i j B) = true
          rw [h2, decide_eq_true hq]; rfl)
        rw [e1] at jh'
        exact br_f (by decide) (nm_r (nI_1 _) (nm_r (nI_1 j) jh'))
    · have e1 : pm_cn (fun w => decide (w &&& i = w) && pq_py n i w B) (j + 1) = pm_cn (fun w => decide (w &&& i = w) && pq_py n i w B) j := if_neg (by
        show ¬ (decide (j &&& i = j) && pq_py n i j B) = true
        rw [decide_eq_false hq]; simp)
      rw [e1] at jh'
      refine br_f (fun z => hq ?_) (nm_r (nI_1 j) jh')
      rw [nx_and] at z
      exact (nI_eq (by omega) (by omega)).mp z)
  exact key
end
