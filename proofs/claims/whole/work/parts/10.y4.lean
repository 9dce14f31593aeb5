/-! the reference's giveUp, and its questions -/
section
variable {n h : Nat} {hI : Int32} {he fm re fa : Nat → Int32}
theorem yg_end {post : Int32 → SY → Prop} {R : Nat → Bool} {b : Nat} (hn : n < 7) (hb : b < 3) (hR : ∀ w, w < 2 ^ n → re w = bi_I (R w)) (hp : post (nI (pm_cn R (2 ^ n))) (nI n, nI (2 ^ n), nI h, fa_F he (64 * b) (fun w => bi_I (R w)) (2 ^ n), fm, re, fa)) : wY_giveUp_172 post (nI b) (nI n) (nI (2 ^ n)) (nI (h + 1)) he fm re fa :=
  nm_r (nI_pred h) (yw_store hn hb hR hp)
theorem yg_3 {post : Int32 → SY → Prop} {B F : Nat → Bool} {D : Nat → Nat} {L b : Nat} (hn : n < 7) (hh : h < 8) (hb : b < 3) (hF : ∀ w, w < 2 ^ n → fm (64 * h + w) = bi_I (F w)) (hre : ∀ w, w < 2 ^ n → re w = bi_I (B w)) (hD : ∀ w, w < 2 ^ n → fa w = nI (D w)) (hD2 : ∀ w, w < 2 ^ n → D w < 1000) (hL : L ≤ 1000) (hp : ∀ re', post (nI (pm_cn (fun w => B w || (!F w && decide (D w = L))) (2 ^ n))) (nI n, nI (2 ^ n), nI h, fa_F he (64 * b) (fun w => bi_I (B w || (!F w && decide (D w = L)))) (2 ^ n), fm, re', fa)) : ∃ m, wY_giveUp_122 post (nI b) (nI L) (nI n) (nI (2 ^ n)) (nI (h + 1)) m 0 he fm re fa := by
  have hW := bb_W n hn
  have key := xl_up (fun m i => wY_giveUp_122 post (nI b) (nI L) (nI n) (nI (2 ^ n)) (nI (h + 1)) m (nI i) he fm (fa_F re 0 (fun w => bi_I (B w || (!F w && decide (D w = L)))) i) fa) (2 ^ n) (fun m => br_t (nI_le (Nat.le_refl _) (xw_W31 hn)) (yg_end hn hb (R := fun w => B w || (!F w && decide (D w = L))) (fun w hw => y0_in hw) (hp _))) (fun m i hi ih => by
    refine br_f (nI_ge hi (xw_W31 hn)) (br_f (nI_ge (b := 64) (by omega) (by decide)) (yw_top hh (by omega) (hF i hi) ?_))
    have ih' : wY_giveUp_122 post (nI b) (nI L) (nI n) (nI (2 ^ n)) (nI (h + 1)) m (nI (i + 1)) he fm (fa_F re 0 (fun w => bi_I (B w || (!F w && decide (D w = L)))) (i + 1)) fa := ih
    clear ih
    have hin : vp_in (nI i) 64 := vp_in_nI (by omega) (by decide)
    have hd := hD2 i hi
    have hkeep : (!F i && decide (D i = L)) = false → fa_F re 0 (fun w => bi_I (B w || (!F w && decide (D w = L)))) (i + 1) = fa_F re 0 (fun w => bi_I (B w || (!F w && decide (D w = L)))) i := fun z => fa_keep (by
      show re (0 + i) = bi_I (B i || (!F i && decide (D i = L)))
      rw [z, Bool.or_false, Nat.zero_add]; exact hre i hi)
    cases hc : F i
    · refine br_t rfl ⟨hin, ?_⟩
      rw [show fa (nI i).toNatClampNeg = nI (D i) by rw [nI_clamp (by omega)]; exact hD i hi]
      by_cases hq : D i = L
      · exact br_t (congrArg nI hq) ⟨hin, nm_r (yr_up (R := fun w => B w || (!F w && decide (D w = L))) (c := true) (by show (B i || (!F i && decide (D i = L))) = true; rw [hc, decide_eq_true hq]; simp) (by omega)) (nm_r (nI_1 i) ih')⟩
      · rw [hkeep (by rw [decide_eq_false hq, Bool.and_false])] at ih'
        exact br_f (fun z => hq ((nI_eq (by omega) (by omega)).mp z)) (nm_r (nI_1 i) ih')
    · rw [hkeep (by rw [hc]; rfl)] at ih'
      exact br_f (by decide) (nm_r (nI_1 i) ih'))
  obtain ⟨m, hm⟩ := key
  refine ⟨m, ?_⟩
  have hm' : wY_giveUp_122 post (nI b) (nI L) (nI n) (nI (2 ^ n)) (nI (h + 1)) m (nI 0) he fm (fa_F re 0 (fun w => bi_I (B w || (!F w && decide (D w = L)))) 0) fa := hm
  rw [fa_0] at hm'
  exact hm'
theorem yg_2 {post : Int32 → SY → Prop} {B F : Nat → Bool} {b : Nat} (hn : n < 7) (hh : h < 8) (hb : b < 3) (hB : ∀ w, w < 2 ^ n → he (64 * b + w) = bi_I (B w)) (hF : ∀ w, w < 2 ^ n → fm (64 * h + w) = bi_I (F w)) (hre : ∀ w, w < 2 ^ n → re w = bi_I (B w)) (hp : ∀ re' fa', post (nI (pm_cn (fun w => B w || (!F w && decide (pm_ds n B w = pm_mn (fun w => F w == false) (fun w => pm_ds n B w) 1000 (2 ^ n)))) (2 ^ n))) (nI n, nI (2 ^ n), nI h, fa_F he (64 * b) (fun w => bi_I (B w || (!F w && decide (pm_ds n B w = pm_mn (fun w => F w == false) (fun w => pm_ds n B w) 1000 (2 ^ n))))) (2 ^ n), fm, re', fa')) : ∃ m, wY_giveUp_81 post (nI b) (nI n) (nI (2 ^ n)) (nI (h + 1)) m 0 he fm re fa := by
  have hW := bb_W n hn
  have hD2 : ∀ w, pm_ds n B w < 1000 := by
    intro w
    have h1 := pm_ds_z n B w
    omega
  have key := xl_up (fun m i => wY_giveUp_81 post (nI b) (nI n) (nI (2 ^ n)) (nI (h + 1)) m (nI i) he fm re (fa_F fa 0 (fun w => nI (pm_ds n B w)) i)) (2 ^ n) (fun m => br_t (nI_le (Nat.le_refl _) (xw_W31 hn)) (show wY_giveUp_113 _ _ _ _ _ _ _ _ _ from yw_least (t := false) (F := F) (D := fun w => pm_ds n B w) hn hh hF (fun w hw => y0_in hw) (fun w _ => hD2 w) (yg_3 (B := B) (F := F) (D := fun w => pm_ds n B w) hn hh hb hF hre (fun w hw => y0_in hw) (fun w _ => hD2 w) (pm_mn_z _ _ _ _) (fun re' => hp re' _)))) (fun m i hi ih => by
    refine br_f (nI_ge hi (xw_W31 hn)) (br_f (nI_ge (b := 64) (by omega) (by decide)) ?_)
    have hin : vp_in (nI i) 64 := vp_in_nI (by omega) (by decide)
    exact yw_dist hn hb hi hB ⟨hin, nm_r (yd_up (D := fun w => pm_ds n B w) (by omega)) (nm_r (nI_1 i) ih)⟩)
  obtain ⟨m, hm⟩ := key
  refine ⟨m, ?_⟩
  have hm' : wY_giveUp_81 post (nI b) (nI n) (nI (2 ^ n)) (nI (h + 1)) m (nI 0) he fm re (fa_F fa 0 (fun w => nI (pm_ds n B w)) 0) := hm
  rw [fa_0] at hm'
  exact hm'
/-- what giveUp leaves -/
def gu_R (n : Nat) (B F : Nat → Bool) : Nat → Bool := if pm_ex (fun w => B w && !F w) (2 ^ n) = true then B else fun w => B w || (!F w && decide (pm_ds n B w = pm_mn (fun w => F w == false) (fun w => pm_ds n B w) 1000 (2 ^ n)))
theorem yp_giveUp {post : Int32 → SY → Prop} {B F : Nat → Bool} {b : Nat} (hn : n < 7) (hh : h < 8) (hb : b < 3) (hB : ∀ w, w < 2 ^ n → he (64 * b + w) = bi_I (B w)) (hF : ∀ w, w < 2 ^ n → fm (64 * h + w) = bi_I (F w)) (hp : ∀ re' fa', post (nI (pm_cn (gu_R n B F) (2 ^ n))) (nI n, nI (2 ^ n), nI h, fa_F he (64 * b) (fun w => bi_I (gu_R n B F w)) (2 ^ n), fm, re', fa')) : ∃ m, wY_giveUp_24 post (nI b) (nI n) (nI (2 ^ n)) (nI (h + 1)) m 1 0 he fm re fa := by
  have hW := bb_W n hn
  have key := xl_up (fun m i => wY_giveUp_24 post (nI b) (nI n) (nI (2 ^ n)) (nI (h + 1)) m (bi_I (!pm_ex (fun w => B w && !F w) i)) (nI i) he fm (fa_F re 0 (fun w => bi_I (B w)) i) fa) (2 ^ n) (fun m => br_t (nI_le (Nat.le_refl _) (xw_W31 hn)) (by
    cases hx : pm_ex (fun w => B w && !F w) (2 ^ n)
    · have e1 : gu_R n B F = fun w => B w || (!F w && decide (pm_ds n B w = pm_mn (fun w => F w == false) (fun w => pm_ds n B w) 1000 (2 ^ n))) := if_neg (by rw [hx]; decide)
      rw [e1] at hp
      exact br_f (by decide) (yg_2 (B := B) hn hh hb hB hF (fun w hw => y0_in hw) hp)
    · have e1 : gu_R n B F = B := if_pos hx
      rw [e1] at hp
      exact br_t rfl (yg_end hn hb (R := B) (fun w hw => y0_in hw) (hp _ _)))) (fun m i hi ih => by
    refine br_f (nI_ge hi (xw_W31 hn)) (br_f (nI_ge (b := 64) (by omega) (by decide)) (yw_in hb (by omega) (hB i hi) ?_))
    have ih' : wY_giveUp_24 post (nI b) (nI n) (nI (2 ^ n)) (nI (h + 1)) m (bi_I (!(pm_ex (fun w => B w && !F w) i || (B i && !F i)))) (nI (i + 1)) he fm (fa_F re 0 (fun w => bi_I (B w)) (i + 1)) fa := ih
    clear ih
    have hin : vp_in (nI i) 64 := vp_in_nI (by omega) (by decide)
    refine ⟨hin, nm_r (yr_up (R := B) (c := B i) rfl (by omega)) (yw_in hb (by omega) (hB i hi) ?_)⟩
    cases hc : B i
    · rw [hc, Bool.false_and, Bool.or_false] at ih'
      exact br_t rfl (nm_r (nI_1 i) ih')
    · refine br_f (by decide) (yw_top hh (by omega) (hF i hi) ?_)
      cases hc2 : F i
      · rw [hc, hc2, Bool.not_false, Bool.and_true, Bool.or_true] at ih'
        exact br_t rfl (nm_r (nI_1 i) ih')
      · rw [hc2, Bool.not_true, Bool.and_false, Bool.or_false] at ih'
        exact br_f (by decide) (nm_r (nI_1 i) ih'))
  obtain ⟨m, hm⟩ := key
  refine ⟨m, ?_⟩
  have hm' : wY_giveUp_24 post (nI b) (nI n) (nI (2 ^ n)) (nI (h + 1)) m 1 (nI 0) he fm (fa_F re 0 (fun w => bi_I (B w)) 0) fa := hm
  rw [fa_0] at hm'
  exact hm'
theorem ys_count {post : Int32 → Prop} {B : Nat → Bool} {b : Nat} (hn : n < 7) (hb : b < 3) (hB : ∀ w, w < 2 ^ n → he (64 * b + w) = bi_I (B w)) (hp : post (nI (pm_cn B (2 ^ n)))) : ∃ m, wY_count_14 post (nI b) (nI n) (nI (2 ^ n)) hI he fm re fa m 0 0 := by
  have hW := bb_W n hn
  refine xl_up (fun m i => wY_count_14 post (nI b) (nI n) (nI (2 ^ n)) hI he fm re fa m (nI (pm_cn B i)) (nI i)) (2 ^ n) (fun m => br_t (nI_le (Nat.le_refl _) (xw_W31 hn)) hp) (fun m i hi ih => ?_)
  refine br_f (nI_ge hi (xw_W31 hn)) (yw_in hb (by omega) (hB i hi) ?_)
  have ih' : wY_count_14 post (nI b) (nI n) (nI (2 ^ n)) hI he fm re fa m (nI (pm_cn B (i + 1))) (nI (i + 1)) := ih
  clear ih
  cases hC : B i
  · have e1 : pm_cn B (i + 1) = pm_cn B i := if_neg (by rw [hC]; decide)
    rw [e1] at ih'
    exact br_t rfl (nm_r (nI_1 i) ih')
  · have e1 : pm_cn B (i + 1) = pm_cn B i + 1 := if_pos hC
    rw [e1] at ih'
    exact br_f (by decide) (nm_r (nI_1 _) (nm_r (nI_1 i) ih'))
theorem ys_entails {post : Int32 → Prop} {B F : Nat → Bool} {b : Nat} (hn : n < 7) (hh : h < 8) (hb : b < 3) (hB : ∀ w, w < 2 ^ n → he (64 * b + w) = bi_I (B w)) (hF : ∀ w, w < 2 ^ n → fm (64 * h + w) = bi_I (F w)) (hp : post (bi_I (!pm_ex (fun w => B w && !F w) (2 ^ n)))) : ∃ m, wY_entails_22 post (nI b) (nI n) (nI (2 ^ n)) (nI (h + 1)) he fm re fa m 0 := by
  have hW := bb_W n hn
  refine xl_find (fun w => B w && !F w) (fun m i => wY_entails_22 post (nI b) (nI n) (nI (2 ^ n)) (nI (h + 1)) he fm re fa m (nI i)) (2 ^ n) ?_ ?_
  · intro hf m
    rw [hf] at hp
    exact br_t (nI_le (Nat.le_refl _) (xw_W31 hn)) hp
  · intro m i hi k1 k2
    have k1' : (B i && !F i) = false → wY_entails_22 post (nI b) (nI n) (nI (2 ^ n)) (nI (h + 1)) he fm re fa m (nI (i + 1)) := k1
    have k2' : (B i && !F i) = true → pm_ex (fun w => B w && !F w) (2 ^ n) = true := k2
    clear k1 k2
    refine br_f (nI_ge hi (xw_W31 hn)) (yw_in hb (by omega) (hB i hi) ?_)
    cases hc : B i
    · exact br_t rfl (nm_r (nI_1 i) (k1' (by rw [hc]; rfl)))
    · refine br_f (by decide) (yw_top hh (by omega) (hF i hi) ?_)
      cases hq : F i
      · refine br_t rfl ?_
        rw [k2' (by rw [hc, hq]; rfl)] at hp
        exact hp
      · exact br_f (by decide) (nm_r (nI_1 i) (k1' (by rw [hq]; simp)))
theorem ys_distance {post : Int32 → Prop} {A B : Nat → Bool} {a b : Nat} (hn : n < 7) (ha : a < 3) (hb : b < 3) (hA : ∀ w, w < 2 ^ n → he (64 * a + w) = bi_I (A w)) (hB : ∀ w, w < 2 ^ n → he (64 * b + w) = bi_I (B w)) (hp : post (nI (pm_mn B (pm_ds n A) (n + 1) (2 ^ n)))) : ∃ m, wY_distance_47 post (nI a) (nI b) (nI n) (nI (2 ^ n)) hI he fm re fa m (nI (n + 1)) 0 := by
  have hW := bb_W n hn
  refine xl_up (fun m i => wY_distance_47 post (nI a) (nI b) (nI n) (nI (2 ^ n)) hI he fm re fa m (nI (pm_mn B (pm_ds n A) (n + 1) i)) (nI i)) (2 ^ n) (fun m => br_t (nI_le (Nat.le_refl _) (xw_W31 hn)) hp) (fun m i hi ih => ?_)
  refine br_f (nI_ge hi (xw_W31 hn)) (yw_in hb (by omega) (hB i hi) ?_)
  have ih' : wY_distance_47 post (nI a) (nI b) (nI n) (nI (2 ^ n)) hI he fm re fa m (nI (pm_mn B (pm_ds n A) (n + 1) (i + 1))) (nI (i + 1)) := ih
  clear ih
  rw [pm_mn_s] at ih'
  have hz := pm_mn_z B (pm_ds n A) (n + 1) i
  have hpc := pm_ds_z n A i
  cases hC : B i
  · rw [if_neg (by rw [hC]; decide)] at ih'
    exact br_t rfl (nm_r (nI_1 i) ih')
  · rw [if_pos hC] at ih'
    refine br_f (by decide) (yw_dist hn ha hi hA ?_)
    by_cases hlt : pm_ds n A i < pm_mn B (pm_ds n A) (n + 1) i
    · rw [if_pos hlt] at ih'
      exact br_f (nI_ge hlt (by omega)) (nm_r (nI_1 i) ih')
    · rw [if_neg hlt] at ih'
      exact br_t (nI_le (by omega) (by omega)) (nm_r (nI_1 i) ih')
theorem pm_mx_s (C : Nat → Bool) (D : Nat → Nat) (m : Nat) : pm_mx C D (m + 1) = if C m = true then (if pm_mx C D m < D m then D m else pm_mx C D m) else pm_mx C D m := rfl
theorem pm_mx_z (C : Nat → Bool) (D : Nat → Nat) {z : Nat} (h : ∀ i, D i ≤ z) : ∀ m, pm_mx C D m ≤ z := by
  intro m
  induction m with
  | zero => exact Nat.zero_le z
  | succ m ih =>
    have h1 := h m
    rw [pm_mx_s]; split <;> (try split) <;> omega
theorem ys_reach {post : Int32 → Prop} {A B : Nat → Bool} {a b : Nat} (hn : n < 7) (ha : a < 3) (hb : b < 3) (hA : ∀ w, w < 2 ^ n → he (64 * a + w) = bi_I (A w)) (hB : ∀ w, w < 2 ^ n → he (64 * b + w) = bi_I (B w)) (hp : post (nI (pm_mx B (pm_ds n A) (2 ^ n)))) : ∃ m, wY_reach_42 post (nI a) (nI b) (nI n) (nI (2 ^ n)) hI he fm re fa m 0 0 := by
  have hW := bb_W n hn
  refine xl_up (fun m i => wY_reach_42 post (nI a) (nI b) (nI n) (nI (2 ^ n)) hI he fm re fa m (nI (pm_mx B (pm_ds n A) i)) (nI i)) (2 ^ n) (fun m => br_t (nI_le (Nat.le_refl _) (xw_W31 hn)) hp) (fun m i hi ih => ?_)
  refine br_f (nI_ge hi (xw_W31 hn)) (yw_in hb (by omega) (hB i hi) ?_)
  have ih' : wY_reach_42 post (nI a) (nI b) (nI n) (nI (2 ^ n)) hI he fm re fa m (nI (pm_mx B (pm_ds n A) (i + 1))) (nI (i + 1)) := ih
  clear ih
  rw [pm_mx_s] at ih'
  have hz := pm_mx_z B (pm_ds n A) (pm_ds_z n A) i
  have hpc := pm_ds_z n A i
  cases hC : B i
  · rw [if_neg (by rw [hC]; decide)] at ih'
    exact br_t rfl (nm_r (nI_1 i) ih')
  · rw [if_pos hC] at ih'
    refine br_f (by decide) (yw_dist hn ha hi hA ?_)
    by_cases hlt : pm_mx B (pm_ds n A) i < pm_ds n A i
    · rw [if_pos hlt] at ih'
      exact br_f (nI_ge hlt (by omega)) (nm_r (nI_1 i) ih')
    · rw [if_neg hlt] at ih'
      exact br_t (nI_le (by omega) (by omega)) (nm_r (nI_1 i) ih')
theorem ys_matters {post : Int32 → Prop} {B : Nat → Bool} {b v : Nat} (hn : n < 7) (hb : b < 3) (hv : v < n) (hB : ∀ w, w < 2 ^ n → he (64 * b + w) = bi_I (B w)) (hp : post (bi_I (pm_ex (fun w => B w && !B (w ^^^ 2 ^ v)) (2 ^ n)))) : ∃ m, wY_matters_23 post (nI b) (nI v) (nI n) (nI (2 ^ n)) hI he fm re fa m 0 := by
  have hW := bb_W n hn
  refine xl_find (fun w => B w && !B (w ^^^ 2 ^ v)) (fun m i => wY_matters_23 post (nI b) (nI v) (nI n) (nI (2 ^ n)) hI he fm re fa m (nI i)) (2 ^ n) ?_ ?_
  · intro hf m
    rw [hf] at hp
    exact br_t (nI_le (Nat.le_refl _) (xw_W31 hn)) hp
  · intro m i hi k1 k2
    have k1' : (B i && !B (i ^^^ 2 ^ v)) = false → wY_matters_23 post (nI b) (nI v) (nI n) (nI (2 ^ n)) hI he fm re fa m (nI (i + 1)) := k1
    have k2' : (B i && !B (i ^^^ 2 ^ v)) = true → pm_ex (fun w => B w && !B (w ^^^ 2 ^ v)) (2 ^ n) = true := k2
    clear k1 k2
    have hx : i ^^^ 2 ^ v < 2 ^ n := pm_xlt hi (pm_plt hv)
    refine br_f (nI_ge hi (xw_W31 hn)) (yw_in hb (by omega) (hB i hi) ?_)
    cases hc : B i
    · exact br_t rfl (nm_r (nI_1 i) (k1' (by rw [hc]; rfl)))
    · refine br_f (by decide) ?_
      rw [bi_xor i (by omega)]
      refine yw_in hb (by omega) (hB _ hx) ?_
      cases hq : B (i ^^^ 2 ^ v)
      · refine br_t rfl ?_
        rw [k2' (by rw [hc, hq]; rfl)] at hp
        exact hp
      · exact br_f (by decide) (nm_r (nI_1 i) (k1' (by rw [hq]; simp)))
end
