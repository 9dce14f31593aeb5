/-! the class's loops in its public methods; what is good -/
section
variable {n h : Nat} {e : Int64} {hI : Int32} {be fo on : Nat → Int64} {he fm re fa : Nat → Int32}
theorem xq_update {post : Int32 → SX → Prop} {B F : Nat → Bool} {b : Nat} (hn : n < 7) (hb : b < 3) (hB : be b = bb_L B (2 ^ n)) (hp : post (nI (pm_cn (fun u => pm_ex (fun w => B w && (F u && !pu_nr F (2 ^ n) u w)) (2 ^ n)) (2 ^ n))) (nI n, nI (2 ^ n), e, hI, vp_updL be b (bb_L (fun u => pm_ex (fun w => B w && (F u && !pu_nr F (2 ^ n) u w)) (2 ^ n)) (2 ^ n)), fo, on)) : ∃ m, wX_update_31 post (nI b) (bb_L F (2 ^ n)) (nI n) (nI (2 ^ n)) e hI be fo on m 0 0 := by
  have hW := bb_W n hn
  have key := xl_up (fun m i => wX_update_31 post (nI b) (bb_L F (2 ^ n)) (nI n) (nI (2 ^ n)) e hI be fo on m (bb_L (fun u => pm_ex (fun w => B w && (F u && !pu_nr F (2 ^ n) u w)) i) (2 ^ n)) (nI i)) (2 ^ n) (fun m => br_t (nI_le (Nat.le_refl _) (xw_W31 hn)) (xw_become hn hb hp)) (fun m i hi ih => by
    refine br_f (nI_ge hi (xw_W31 hn)) ⟨vp_in_nI hb (by decide), ?_⟩
    rw [show be (nI b).toNatClampNeg = bb_L B (2 ^ n) by rw [nI_clamp (by omega)]; exact hB]
    refine xw_inL hn hi ?_
    have ih' : wX_update_31 post (nI b) (bb_L F (2 ^ n)) (nI n) (nI (2 ^ n)) e hI be fo on m (bb_L (fun u => pm_ex (fun w => B w && (F u && !pu_nr F (2 ^ n) u w)) i || (B i && (F u && !pu_nr F (2 ^ n) u i))) (2 ^ n)) (nI (i + 1)) := ih
    clear ih
    cases hc : B i
    · refine br_t rfl (nm_r (nI_1 i) ?_)
      rw [bb_Lc (T := fun u => pm_ex (fun w => B w && (F u && !pu_nr F (2 ^ n) u w)) i) (S := fun u => pm_ex (fun w => B w && (F u && !pu_nr F (2 ^ n) u w)) i || (B i && (F u && !pu_nr F (2 ^ n) u i))) (fun u _ => by
        show (pm_ex (fun w => B w && (F u && !pu_nr F (2 ^ n) u w)) i || (B i && (F u && !pu_nr F (2 ^ n) u i))) = _
        rw [hc, Bool.false_and, Bool.or_false])] at ih'
      exact ih'
    · refine br_f (by decide) (xv_lco hn hi (nm_r (bb_Lor hW) (nm_r (nI_1 i) ?_)))
      rw [bb_Lc (T := fun u => pm_ex (fun w => B w && (F u && !pu_nr F (2 ^ n) u w)) i || (F u && !pu_nr F (2 ^ n) u i)) (S := fun u => pm_ex (fun w => B w && (F u && !pu_nr F (2 ^ n) u w)) i || (B i && (F u && !pu_nr F (2 ^ n) u i))) (fun u _ => by
        show (pm_ex (fun w => B w && (F u && !pu_nr F (2 ^ n) u w)) i || (B i && (F u && !pu_nr F (2 ^ n) u i))) = _
        rw [hc, Bool.true_and])] at ih'
      exact ih')
  obtain ⟨m, hm⟩ := key
  refine ⟨m, ?_⟩
  have hm' : wX_update_31 post (nI b) (bb_L F (2 ^ n)) (nI n) (nI (2 ^ n)) e hI be fo on m (bb_L (fun _ => false) (2 ^ n)) (nI 0) := hm
  rw [bb_L0] at hm'
  exact hm'
theorem xq_next {B : Nat → Bool} {b : Nat} {a : Int32} (hn : n < 7) (hb : b < 3) (hB : be b = bb_L B (2 ^ n)) (hY : ∀ w, w < 2 ^ n → he (64 * b + w) = bi_I (B w)) : ∀ d i, i + d = 2 ^ n → ∃ r : Int32, (∀ post : Int32 → Prop, post r → wX_next_12 post (nI b) a (nI n) (nI (2 ^ n)) e hI be fo on (d + 1) (nI i)) ∧ (∀ post : Int32 → Prop, post r → wY_next_12 post (nI b) a (nI n) (nI (2 ^ n)) hI he fm re fa (d + 1) (nI i)) := by
  have hW := bb_W n hn
  intro d
  induction d with
  | zero =>
    intro i hi
    have e1 : i = 2 ^ n := by omega
    rw [e1]
    exact ⟨-2, fun post hp => br_t (nI_le (Nat.le_refl _) (xw_W31 hn)) hp, fun post hp => br_t (nI_le (Nat.le_refl _) (xw_W31 hn)) hp⟩
  | succ d ih =>
    intro i hi
    have hi2 : i < 2 ^ n := by omega
    obtain ⟨r, hX, hYr⟩ := ih (i + 1) (by omega)
    have hbe : be (nI b).toNatClampNeg = bb_L B (2 ^ n) := by rw [nI_clamp (by omega)]; exact hB
    by_cases ha : nI i ≤ a
    · exact ⟨r, fun post hp => br_f (nI_ge hi2 (xw_W31 hn)) (br_t ha (nm_r (nI_1 i) (hX post hp))), fun post hp => br_f (nI_ge hi2 (xw_W31 hn)) (br_t ha (nm_r (nI_1 i) (hYr post hp)))⟩
    · cases hc : B i
      · refine ⟨r, fun post hp => br_f (nI_ge hi2 (xw_W31 hn)) (br_f ha ⟨vp_in_nI hb (by decide), ?_⟩), fun post hp => br_f (nI_ge hi2 (xw_W31 hn)) (br_f ha (yw_in hb (by omega) (hY i hi2) ?_))⟩
        · rw [hbe]
          refine xw_inL hn hi2 ?_
          rw [hc]
          exact br_t rfl (nm_r (nI_1 i) (hX post hp))
        · rw [hc]
          exact br_t rfl (nm_r (nI_1 i) (hYr post hp))
      · refine ⟨nI i, fun post hp => br_f (nI_ge hi2 (xw_W31 hn)) (br_f ha ⟨vp_in_nI hb (by decide), ?_⟩), fun post hp => br_f (nI_ge hi2 (xw_W31 hn)) (br_f ha (yw_in hb (by omega) (hY i hi2) ?_))⟩
        · rw [hbe]
          refine xw_inL hn hi2 ?_
          rw [hc]
          exact br_f (by decide) hp
        · rw [hc]
          exact br_f (by decide) hp
theorem xq_distance {post : Int32 → Prop} {A B : Nat → Bool} {a b : Nat} (hn : n < 7) (hon : ∀ v, v < n → on v = bb_L (fun w => Nat.testBit w v) (2 ^ n)) (ha : a < 3) (hb : b < 3) (hA : be a = bb_L A (2 ^ n)) (hB : be b = bb_L B (2 ^ n)) (hp : post (nI (pm_mn B (pm_ds n A) n (2 ^ n)))) : ∃ m, wX_distance_51 post (nI a) (nI b) (nI n) (nI (2 ^ n)) e hI be fo on m (nI n) 0 := by
  have hW := bb_W n hn
  refine xl_up (fun m i => wX_distance_51 post (nI a) (nI b) (nI n) (nI (2 ^ n)) e hI be fo on m (nI (pm_mn B (pm_ds n A) n i)) (nI i)) (2 ^ n) (fun m => br_t (nI_le (Nat.le_refl _) (xw_W31 hn)) hp) (fun m i hi ih => ?_)
  refine br_f (nI_ge hi (xw_W31 hn)) ⟨vp_in_nI hb (by decide), ?_⟩
  rw [show be (nI b).toNatClampNeg = bb_L B (2 ^ n) by rw [nI_clamp (by omega)]; exact hB]
  refine xw_inL hn hi ?_
  have ih' : wX_distance_51 post (nI a) (nI b) (nI n) (nI (2 ^ n)) e hI be fo on m (nI (pm_mn B (pm_ds n A) n (i + 1))) (nI (i + 1)) := ih
  clear ih
  rw [pm_mn_s] at ih'
  have hz := pm_mn_z B (pm_ds n A) n i
  have hpc := pm_ds_z n A i
  cases hC : B i
  · rw [if_neg (by rw [hC]; decide)] at ih'
    exact br_t rfl (nm_r (nI_1 i) ih')
  · rw [if_pos hC] at ih'
    refine br_f (by decide) ⟨vp_in_nI ha (by decide), ?_⟩
    rw [show be (nI a).toNatClampNeg = bb_L A (2 ^ n) by rw [nI_clamp (by omega)]; exact hA]
    refine xw_dist hn hon hi ?_
    by_cases hlt : pm_ds n A i < pm_mn B (pm_ds n A) n i
    · rw [if_pos hlt] at ih'
      exact br_f (nI_ge hlt (by omega)) (nm_r (nI_1 i) ih')
    · rw [if_neg hlt] at ih'
      exact br_t (nI_le (by omega) (by omega)) (nm_r (nI_1 i) ih')
theorem xq_reach {post : Int32 → Prop} {A B : Nat → Bool} {a b : Nat} (hn : n < 7) (hon : ∀ v, v < n → on v = bb_L (fun w => Nat.testBit w v) (2 ^ n)) (ha : a < 3) (hb : b < 3) (hA : be a = bb_L A (2 ^ n)) (hB : be b = bb_L B (2 ^ n)) (hp : post (nI (pm_mx B (pm_ds n A) (2 ^ n)))) : ∃ m, wX_reach_48 post (nI a) (nI b) (nI n) (nI (2 ^ n)) e hI be fo on m 0 0 := by
  have hW := bb_W n hn
  refine xl_up (fun m i => wX_reach_48 post (nI a) (nI b) (nI n) (nI (2 ^ n)) e hI be fo on m (nI (pm_mx B (pm_ds n A) i)) (nI i)) (2 ^ n) (fun m => br_t (nI_le (Nat.le_refl _) (xw_W31 hn)) hp) (fun m i hi ih => ?_)
  refine br_f (nI_ge hi (xw_W31 hn)) ⟨vp_in_nI hb (by decide), ?_⟩
  rw [show be (nI b).toNatClampNeg = bb_L B (2 ^ n) by rw [nI_clamp (by omega)]; exact hB]
  refine xw_inL hn hi ?_
  have ih' : wX_reach_48 post (nI a) (nI b) (nI n) (nI (2 ^ n)) e hI be fo on m (nI (pm_mx B (pm_ds n A) (i + 1))) (nI (i + 1)) := ih
  clear ih
  rw [pm_mx_s] at ih'
  have hz := pm_mx_z B (pm_ds n A) (pm_ds_z n A) i
  have hpc := pm_ds_z n A i
  cases hC : B i
  · rw [if_neg (by rw [hC]; decide)] at ih'
    exact br_t rfl (nm_r (nI_1 i) ih')
  · rw [if_pos hC] at ih'
    refine br_f (by decide) ⟨vp_in_nI ha (by decide), ?_⟩
    rw [show be (nI a).toNatClampNeg = bb_L A (2 ^ n) by rw [nI_clamp (by omega)]; exact hA]
    refine xw_dist hn hon hi ?_
    by_cases hlt : pm_mx B (pm_ds n A) i < pm_ds n A i
    · rw [if_pos hlt] at ih'
      exact br_f (nI_ge hlt (by omega)) (nm_r (nI_1 i) ih')
    · rw [if_neg hlt] at ih'
      exact br_t (nI_le (by omega) (by omega)) (nm_r (nI_1 i) ih')
theorem xq_defined {post : Int32 → Prop} {S T : Nat → Bool} {s : Nat} (hn : n < 7) (hs : s < 2 ^ n) (hp : post (bi_I (!pm_ex (fun w => S w && pm_ex (fun x => T x && decide (x &&& s = w &&& s)) (2 ^ n)) (2 ^ n)))) : ∃ m, wX_defined_69 post (nI s) (bb_L S (2 ^ n)) (bb_L T (2 ^ n)) (nI n) (nI (2 ^ n)) e hI be fo on m 0 := by
  have hW := bb_W n hn
  refine xl_find (fun w => S w && pm_ex (fun x => T x && decide (x &&& s = w &&& s)) (2 ^ n)) (fun m i => wX_defined_69 post (nI s) (bb_L S (2 ^ n)) (bb_L T (2 ^ n)) (nI n) (nI (2 ^ n)) e hI be fo on m (nI i)) (2 ^ n) ?_ ?_
  · intro hf m
    rw [hf] at hp
    exact br_t (nI_le (Nat.le_refl _) (xw_W31 hn)) hp
  · intro m i hi k1 k2
    have k1' : (S i && pm_ex (fun x => T x && decide (x &&& s = i &&& s)) (2 ^ n)) = false → wX_defined_69 post (nI s) (bb_L S (2 ^ n)) (bb_L T (2 ^ n)) (nI n) (nI (2 ^ n)) e hI be fo on m (nI (i + 1)) := k1
    have k2' : (S i && pm_ex (fun x => T x && decide (x &&& s = i &&& s)) (2 ^ n)) = true → pm_ex (fun w => S w && pm_ex (fun x => T x && decide (x &&& s = w &&& s)) (2 ^ n)) (2 ^ n) = true := k2
    clear k1 k2
    refine br_f (nI_ge hi (xw_W31 hn)) (xw_inL hn hi ?_)
    cases hc : S i
    · exact br_t rfl (nm_r (nI_1 i) (k1' (by rw [hc]; rfl)))
    · refine br_f (by decide) (xv_agree hn hi hs ?_)
      cases hq : pm_ex (fun x => T x && decide (x &&& s = i &&& s)) (2 ^ n)
      · exact br_t rfl (nm_r (nI_1 i) (k1' (by rw [hq]; simp)))
      · refine br_f (by decide) ?_
        rw [k2' (by rw [hq, hc]; rfl)] at hp
        exact hp
theorem xq_primes {post : Int32 → Prop} {B : Nat → Bool} {b : Nat} (hn : n < 7) (hon : ∀ v, v < n → on v = bb_L (fun w => Nat.testBit w v) (2 ^ n)) (hb : b < 3) (hB : be b = bb_L B (2 ^ n)) (hp : post (nI (pm_sm (fun o => pm_cn (pq_px n o B n) (2 ^ n)) (2 ^ n)))) : ∃ m, wX_primes_14 post (nI b) (nI n) (nI (2 ^ n)) e hI be fo on m 0 0 := by
  have hW := bb_W n hn
  refine xl_up (fun m i => wX_primes_14 post (nI b) (nI n) (nI (2 ^ n)) e hI be fo on m (nI (pm_sm (fun o => pm_cn (pq_px n o B n) (2 ^ n)) i)) (nI i)) (2 ^ n) (fun m => br_t (nI_le (Nat.le_refl _) (xw_W31 hn)) hp) (fun m i hi ih => ?_)
  refine br_f (nI_ge hi (xw_W31 hn)) ⟨vp_in_nI hb (by decide), ?_⟩
  rw [show be (nI b).toNatClampNeg = bb_L B (2 ^ n) by rw [nI_clamp (by omega)]; exact hB]
  exact xv_pop hn hon hi (nm_r (nI_add _ _) (nm_r (nI_1 i) ih))
/-! good and bad numbers -/
def bx_bad (N : Nat) (x : Int32) : Prop := x < 0 ∨ nI N ≤ x
theorem bx_c (x : Int32) (N : Nat) (hN : N < 2 ^ 31) : bx_bad N x ∨ ∃ j, j < N ∧ x = nI j := by
  rcases pk_ix x hN with z | z | z
  · exact Or.inl (Or.inl z)
  · exact Or.inl (Or.inr z)
  · exact Or.inr z
theorem xb_bad {post : Int32 → Prop} {u : SX} {x : Int32} (hx : bx_bad 3 x) (hp : post 0) : wpX_isBelief post u x := by
  obtain ⟨q1, q2, q3, q4, q5, q6, q7⟩ := u
  by_cases h0 : x < 0
  · exact br_t h0 hp
  · rcases hx with z | z
    · exact absurd z h0
    · exact br_f h0 (br_t z hp)
theorem xb_ok {post : Int32 → Prop} {u : SX} {j : Nat} (hj : j < 3) (hp : post 1) : wpX_isBelief post u (nI j) := by
  obtain ⟨q1, q2, q3, q4, q5, q6, q7⟩ := u
  exact br_f (nI_pos (by omega)) (br_f (nI_ge (b := 3) hj (by decide)) hp)
theorem xb_vbad {post : Int32 → Prop} {x : Int32} (hx : bx_bad n x) (hp : post 0) : wpX_isVariable post (nI n, nI (2 ^ n), e, hI, be, fo, on) x := by
  by_cases h0 : x < 0
  · exact br_t h0 hp
  · rcases hx with z | z
    · exact absurd z h0
    · exact br_f h0 (br_t z hp)
theorem xb_vok {post : Int32 → Prop} {j : Nat} (hn : n < 7) (hj : j < n) (hp : post 1) : wpX_isVariable post (nI n, nI (2 ^ n), e, hI, be, fo, on) (nI j) :=
  br_f (nI_pos (by omega)) (br_f (nI_ge hj (by omega)) hp)
theorem xb_wbad {post : Int32 → Prop} {x : Int32} (hx : bx_bad (2 ^ n) x) (hp : post 0) : wpX_isWorld post (nI n, nI (2 ^ n), e, hI, be, fo, on) x := by
  by_cases h0 : x < 0
  · exact br_t h0 hp
  · rcases hx with z | z
    · exact absurd z h0
    · exact br_f h0 (br_t z hp)
theorem xb_wok {post : Int32 → Prop} {j : Nat} (hn : n < 7) (hj : j < 2 ^ n) (hp : post 1) : wpX_isWorld post (nI n, nI (2 ^ n), e, hI, be, fo, on) (nI j) := by
  have hW := bb_W n hn
  exact br_f (nI_pos (by omega)) (br_f (nI_ge hj (xw_W31 hn)) hp)
theorem yb_bad {post : Int32 → Prop} {u : SY} {x : Int32} (hx : bx_bad 3 x) (hp : post 1) : wpY_badBelief post u x := by
  obtain ⟨q1, q2, q3, q4, q5, q6, q7⟩ := u
  by_cases h0 : x < 0
  · exact br_t h0 hp
  · rcases hx with z | z
    · exact absurd z h0
    · exact br_f h0 (br_f (bi_2 z) hp)
theorem yb_ok {post : Int32 → Prop} {u : SY} {j : Nat} (hj : j < 3) (hp : post 0) : wpY_badBelief post u (nI j) := by
  obtain ⟨q1, q2, q3, q4, q5, q6, q7⟩ := u
  exact br_f (nI_pos (by omega)) (br_t (bi_j2 hj) hp)
theorem yb_vbad {post : Int32 → Prop} {x : Int32} (hx : bx_bad n x) (hp : post 1) : wpY_badVar post (nI n, nI (2 ^ n), hI, he, fm, re, fa) x := by
  by_cases h0 : x < 0
  · exact br_t h0 hp
  · rcases hx with z | z
    · exact absurd z h0
    · exact br_f h0 (br_f (Int32.not_lt.mpr z) hp)
theorem yb_vok {post : Int32 → Prop} {j : Nat} (hn : n < 7) (hj : j < n) (hp : post 0) : wpY_badVar post (nI n, nI (2 ^ n), hI, he, fm, re, fa) (nI j) :=
  br_f (nI_pos (by omega)) (br_t (nI_lt hj (by omega)) hp)
theorem yb_wbad {post : Int32 → Prop} {x : Int32} (hx : bx_bad (2 ^ n) x) (hp : post 1) : wpY_badWorld post (nI n, nI (2 ^ n), hI, he, fm, re, fa) x := by
  by_cases h0 : x < 0
  · exact br_t h0 hp
  · rcases hx with z | z
    · exact absurd z h0
    · exact br_f h0 (br_t z hp)
theorem yb_wok {post : Int32 → Prop} {j : Nat} (hn : n < 7) (hj : j < 2 ^ n) (hp : post 0) : wpY_badWorld post (nI n, nI (2 ^ n), hI, he, fm, re, fa) (nI j) := by
  have hW := bb_W n hn
  exact br_f (nI_pos (by omega)) (br_f (nI_ge hj (xw_W31 hn)) (br_t (nI_lt (b := 64) (by omega) (by decide)) hp))
theorem xw_put {post : Int32 → SX → Prop} {x : Int64} (hh : h < 8) (hp : post (nI (h + 1)) (nI n, nI (2 ^ n), e, nI (h + 1), be, vp_updL fo h x, on)) : wpX_putOn post (nI n, nI (2 ^ n), e, nI h, be, fo, on) x :=
  ⟨vp_in_nI hh (by decide), nm_r (congrArg (fun k => vp_updL fo k x) (nI_clamp (show h < 2 ^ 31 by omega))) (nm_r (nI_1 h) hp)⟩
theorem xw_take {post : Int64 → SX → Prop} (hh : h < 8) (hp : post (fo h) (nI n, nI (2 ^ n), e, nI h, be, fo, on)) : wpX_takeOff post (nI n, nI (2 ^ n), e, nI (h + 1), be, fo, on) :=
  nm_r (nI_pred h) ⟨vp_in_nI hh (by decide), Eq.mpr (congrArg (fun k => post (fo k) (nI n, nI (2 ^ n), e, nI h, be, fo, on)) (nI_clamp (show h < 2 ^ 31 by omega))) hp⟩
end
