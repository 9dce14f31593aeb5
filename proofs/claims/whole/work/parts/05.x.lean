/-! the class's own methods, each with a general post -/
theorem xw_W31 {n : Nat} (hn : n < 7) : 2 ^ n < 2 ^ 31 := Nat.lt_of_le_of_lt (bb_W n hn) (by decide)
section
variable {n : Nat} {e : Int64} {hI : Int32} {be fo on : Nat → Int64}
theorem xw_in {post : Int32 → Prop} {u : SX} (x : Int64) {w : Nat} (hw : w < 64) (h : post (bi_I (bb_g x w))) : wpX_isIn post u x (nI w) := by
  obtain ⟨a, b, c, d, f, g, i⟩ := u
  cases hb : bb_g x w
  · rw [hb] at h; exact br_t ((bb_in x hw).mpr hb) h
  · rw [hb] at h; exact br_f (fun z => by rw [(bb_in x hw).mp z] at hb; exact absurd hb (by decide)) h
theorem xw_inL {post : Int32 → Prop} {u : SX} {S : Nat → Bool} {w : Nat} (hn : n < 7) (hw : w < 2 ^ n) (h : post (bi_I (S w))) : wpX_isIn post u (bb_L S (2 ^ n)) (nI w) := by
  have hW := bb_W n hn
  refine xw_in _ (by omega) ?_
  rw [bb_gL S _ hW w (by omega), decide_eq_true hw, Bool.true_and]
  exact h
theorem xw_size {post : Int32 → Prop} {S : Nat → Bool} (hn : n < 7) (h : post (nI (pm_cn S (2 ^ n)))) : wpX_sizeOf post (nI n, nI (2 ^ n), e, hI, be, fo, on) (bb_L S (2 ^ n)) :=
  xl_up (fun m i => wX_sizeOf_5 post (bb_L S (2 ^ n)) (nI n) (nI (2 ^ n)) e hI be fo on m (nI (pm_cn S i)) (nI i)) (2 ^ n)
    (fun m => br_t (nI_le (Nat.le_refl _) (xw_W31 hn)) h)
    (fun m i hi ih => br_f (nI_ge hi (xw_W31 hn)) (xw_inL hn hi (by
      cases hS : S i
      · refine br_t rfl (nm_r (nI_1 i) ?_)
        have e1 : pm_cn S (i + 1) = pm_cn S i := if_neg (by rw [hS]; decide)
        rw [e1] at ih; exact ih
      · refine br_f (by decide) (nm_r (nI_1 _) (nm_r (nI_1 i) ?_))
        have e1 : pm_cn S (i + 1) = pm_cn S i + 1 := if_pos hS
        rw [e1] at ih; exact ih)))
theorem xw_become {post : Int32 → SX → Prop} {S : Nat → Bool} {b : Nat} (hn : n < 7) (hb : b < 3) (h : post (nI (pm_cn S (2 ^ n))) (nI n, nI (2 ^ n), e, hI, vp_updL be b (bb_L S (2 ^ n)), fo, on)) : wpX_become post (nI n, nI (2 ^ n), e, hI, be, fo, on) (nI b) (bb_L S (2 ^ n)) :=
  ⟨vp_in_nI hb (by decide), nm_r (congrArg (fun k => vp_updL be k (bb_L S (2 ^ n))) (nI_clamp (show b < 2 ^ 31 by omega))) (xw_size hn h)⟩
theorem xw_turn {post : Int64 → Prop} {S : Nat → Bool} {v : Nat} (hn : n < 7) (hon : ∀ v, v < n → on v = bb_L (fun w => Nat.testBit w v) (2 ^ n)) (hv : v < n) (h : post (bb_L (fun w => S (w ^^^ 2 ^ v)) (2 ^ n))) : wpX_turnedIn post (nI n, nI (2 ^ n), e, hI, be, fo, on) (nI v) (bb_L S (2 ^ n)) :=
  nm_r (bb_step v (by omega)) ⟨vp_in_nI (by omega) (by decide), nm_r ((congrArg on (nI_clamp (show v < 2 ^ 31 by omega))).trans (hon v hv)) (Eq.mpr (congrArg post (bb_turn hn hv)) h)⟩
theorem xw_wide {post : Int64 → Prop} {S : Nat → Bool} (hn : n < 7) (hon : ∀ v, v < n → on v = bb_L (fun w => Nat.testBit w v) (2 ^ n)) (h : post (bb_L (pm_wd S n) (2 ^ n))) : wpX_widened post (nI n, nI (2 ^ n), e, hI, be, fo, on) (bb_L S (2 ^ n)) :=
  xl_up (fun m i => wX_widened_5 post (bb_L S (2 ^ n)) (nI n) (nI (2 ^ n)) e hI be fo on m (bb_L (pm_wd S i) (2 ^ n)) (nI i)) n
    (fun m => br_t (nI_le (Nat.le_refl _) (by omega)) h)
    (fun m i hi ih => br_f (nI_ge hi (by omega)) (xw_turn hn hon hi (nm_r (bb_Lor (bb_W n hn)) (nm_r (nI_1 i) ih))))
theorem xw_dist {post : Int32 → Prop} {S : Nat → Bool} {u : Nat} (hn : n < 7) (hon : ∀ v, v < n → on v = bb_L (fun w => Nat.testBit w v) (2 ^ n)) (hu : u < 2 ^ n) (h : post (nI (pm_ds n S u))) : wpX_distanceFrom post (nI n, nI (2 ^ n), e, hI, be, fo, on) (bb_L S (2 ^ n)) (nI u) := by
  have hW := bb_W n hn
  refine nm_r (e' := bb_L (pm_wk n u 0) (2 ^ n)) ?_ ?_
  · rw [bb_L1 hW hu]; exact bb_Lc (fun i hi => (pm_wk0 hn hu hi).symm)
  · have key : ∀ d k, k + d = n + 1 → k ≤ pm_ds n S u → wX_distanceFrom_8 post (bb_L S (2 ^ n)) (nI n) (nI (2 ^ n)) e hI be fo on (d + 1) (bb_L (pm_wk n u k) (2 ^ n)) (nI k) := by
      intro d
      induction d with
      | zero =>
        intro k hk hd
        have e1 := pm_ds_z n S u
        have e2 : pm_ds n S u = n + 1 := by omega
        have e3 : k = n + 1 := by omega
        rw [e3]
        rw [e2, ← nI_1] at h
        exact br_t (nI_lt (by omega) (by omega)) h
      | succ d ih =>
        intro k hk hd
        refine br_f (nI_nlt (by omega) (by omega)) ?_
        have eL : bb_L (pm_wk n u k) (2 ^ n) &&& bb_L S (2 ^ n) = bb_L (fun w => pm_wk n u k w && S w) (2 ^ n) := bb_Land hW
        by_cases hz : ∀ w, w < 2 ^ n → (pm_wk n u k w && S w) = false
        · refine br_t (eL.trans ((bb_Lz hW).mpr hz)) (xw_wide hn hon (nm_r (nI_1 k) ?_))
          have e4 : bb_L (pm_wd (pm_wk n u k) n) (2 ^ n) = bb_L (pm_wk n u (k + 1)) (2 ^ n) := bb_Lc (fun i hi => pm_wd_wk hn hu hi)
          rw [e4]
          refine ih (k + 1) (by omega) (pm_ds_ge (by omega) (fun w hw hS => ?_))
          have h1 := hz w hw
          rw [hS, Bool.and_true] at h1
          have h2 := of_decide_eq_false h1
          omega
        · refine br_f (fun z => hz ((bb_Lz hW).mp (eL.symm.trans z))) ?_
          have e5 : pm_ds n S u = k := by
            cases hc : pm_ex (fun w => pm_wk n u k w && S w) (2 ^ n)
            · exact absurd ((pm_ex_f _ _).mp hc) hz
            · obtain ⟨w, hw, h3⟩ := (pm_ex_t _ _).mp hc
              have h3' : (pm_wk n u k w && S w) = true := h3
              rw [Bool.and_eq_true] at h3'
              have h4 : pm_pc n (u ^^^ w) ≤ k := of_decide_eq_true h3'.1
              have h5 := pm_ds_le (u := u) hw h3'.2
              omega
          rw [e5] at h; exact h
    exact ⟨n + 2, key (n + 1) 0 (by omega) (Nat.zero_le _)⟩
theorem xw_near {post : Int64 → Prop} {A B C : Nat → Bool} (hn : n < 7) (hon : ∀ v, v < n → on v = bb_L (fun w => Nat.testBit w v) (2 ^ n)) (h : post (bb_L (pm_nr C (fun w => pm_ds n A w + pm_ds n B w) (2 * (n + 1)) (2 ^ n)) (2 ^ n))) : wpX_nearestToBoth post (nI n, nI (2 ^ n), e, hI, be, fo, on) (bb_L A (2 ^ n)) (bb_L B (2 ^ n)) (bb_L C (2 ^ n)) := by
  have hW := bb_W n hn
  have hD : ∀ w, pm_ds n A w + pm_ds n B w ≤ 2 * (n + 1) := by
    intro w
    have h1 := pm_ds_z n A w
    have h2 := pm_ds_z n B w
    omega
  refine nm_r (e' := nI (2 * (n + 1))) (by rw [nI_1]; exact pk_mul 2 (n + 1)) ?_
  have key := xl_up (fun m i => wX_nearestToBoth_16 post (bb_L A (2 ^ n)) (bb_L B (2 ^ n)) (bb_L C (2 ^ n)) (nI n) (nI (2 ^ n)) e hI be fo on m (bb_L (pm_nr C (fun w => pm_ds n A w + pm_ds n B w) (2 * (n + 1)) i) (2 ^ n)) (nI (pm_mn C (fun w => pm_ds n A w + pm_ds n B w) (2 * (n + 1)) i)) (nI i)) (2 ^ n)
    (fun m => br_t (nI_le (Nat.le_refl _) (xw_W31 hn)) h)
    (fun m i hi ih => by
      refine br_f (nI_ge hi (xw_W31 hn)) (xw_inL hn hi ?_)
      have ih' : wX_nearestToBoth_16 post (bb_L A (2 ^ n)) (bb_L B (2 ^ n)) (bb_L C (2 ^ n)) (nI n) (nI (2 ^ n)) e hI be fo on m (bb_L (pm_nr C (fun w => pm_ds n A w + pm_ds n B w) (2 * (n + 1)) (i + 1)) (2 ^ n)) (nI (pm_mn C (fun w => pm_ds n A w + pm_ds n B w) (2 * (n + 1)) (i + 1))) (nI (i + 1)) := ih
      clear ih
      have hDi := hD i
      have hmz := pm_mn_z C (fun w => pm_ds n A w + pm_ds n B w) (2 * (n + 1)) i
      cases hC : C i
      · refine br_t rfl (nm_r (nI_1 i) ?_)
        rw [bb_Lc (fun w _ => pm_nr_skip (Or.inl hC) w), pm_mn_s, if_neg (by rw [hC]; decide)] at ih'
        exact ih'
      · refine br_f (by decide) (xw_dist hn hon hi (xw_dist hn hon hi (nm_r (nI_add _ _) ?_)))
        rcases Nat.lt_trichotomy (pm_ds n A i + pm_ds n B i) (pm_mn C (fun w => pm_ds n A w + pm_ds n B w) (2 * (n + 1)) i) with hlt | heq | hgt
        · rw [bb_Lc (fun w _ => pm_nr_lt hC hlt w), pm_mn_s, if_pos hC, if_pos hlt] at ih'
          exact br_f (nI_ge hlt (by omega)) (br_t rfl (nm_r ((Int64.zero_or).trans (bb_L1 hW hi)) (nm_r (nI_1 i) ih')))
        · rw [bb_Lc (fun w _ => pm_nr_eq hC heq w), pm_mn_s, if_pos hC, if_neg (by omega)] at ih'
          exact br_t (nI_le (by omega) (by omega)) (br_t (congrArg nI heq) (nm_r (bb_Lset hW hi) (nm_r (nI_1 i) ih')))
        · rw [bb_Lc (fun w _ => pm_nr_skip (Or.inr hgt) w), pm_mn_s, if_pos hC, if_neg (by omega)] at ih'
          exact br_t (nI_le (by omega) (by omega)) (br_f (fun z => by have z2 := (nI_eq (by omega) (by omega)).mp z; omega) (nm_r (nI_1 i) ih')))
  obtain ⟨m, hm⟩ := key
  refine ⟨m, ?_⟩
  have hm' : wX_nearestToBoth_16 post (bb_L A (2 ^ n)) (bb_L B (2 ^ n)) (bb_L C (2 ^ n)) (nI n) (nI (2 ^ n)) e hI be fo on m (bb_L (pm_nr C (fun w => pm_ds n A w + pm_ds n B w) (2 * (n + 1)) 0) (2 ^ n)) (nI (2 * (n + 1))) (nI 0) := hm
  have e0 : bb_L (pm_nr C (fun w => pm_ds n A w + pm_ds n B w) (2 * (n + 1)) 0) (2 ^ n) = 0 := (bb_Lc (T := fun _ => false) (fun w _ => by unfold pm_nr; simp)).trans (bb_L0 _)
  rw [e0] at hm'
  exact hm'
end
