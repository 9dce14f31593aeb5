/-! the reference's calls by distance, by least change, forget, copy -/
section
variable {n h : Nat} {hI : Int32} {he fm re fa : Nat → Int32}
theorem yq_revise3 {post : Int32 → SY → Prop} {F : Nat → Bool} {D : Nat → Nat} {L : Nat} {b : Nat} (hn : n < 7) (hh : h < 8) (hb : b < 3) (hF : ∀ w, w < 2 ^ n → fm (64 * h + w) = bi_I (F w)) (hD : ∀ w, w < 2 ^ n → fa w = nI (D w)) (hD2 : ∀ w, w < 2 ^ n → D w < 1000) (hL : L ≤ 1000) (hp : ∀ re', post (nI (pm_cn (fun w => F w && decide (D w = L)) (2 ^ n))) (nI n, nI (2 ^ n), nI h, fa_F he (64 * b) (fun w => bi_I (F w && decide (D w = L))) (2 ^ n), fm, re', fa)) : ∃ m, wY_revise_62 post (nI b) (nI L) (nI n) (nI (2 ^ n)) (nI (h + 1)) m 0 he fm re fa := by
  have hW := bb_W n hn
  have key := xl_up (fun m i => wY_revise_62 post (nI b) (nI L) (nI n) (nI (2 ^ n)) (nI (h + 1)) m (nI i) he fm (fa_F re 0 (fun w => bi_I (F w && decide (D w = L))) i) fa) (2 ^ n) (fun m => br_t (nI_le (Nat.le_refl _) (xw_W31 hn)) (show wY_revise_111 _ _ _ _ _ _ _ _ _ from nm_r (nI_pred h) (yw_store hn hb (R := fun w => F w && decide (D w = L)) (fun w hw => y0_in hw) (hp _)))) (fun m i hi ih => by
    refine br_f (nI_ge hi (xw_W31 hn)) (br_f (nI_ge (b := 64) (by omega) (by decide)) (yw_top hh (by omega) (hF i hi) ?_))
    have hin : vp_in (nI i) 64 := vp_in_nI (by omega) (by decide)
    have hd := hD2 i hi
    cases hc : F i
    · exact br_t rfl ⟨hin, nm_r (yr_up (R := fun w => F w && decide (D w = L)) (c := false) (by show (F i && decide (D i = L)) = false; rw [hc]; rfl) (by omega)) (nm_r (nI_1 i) ih)⟩
    · refine br_f (by decide) ⟨hin, ?_⟩
      rw [show fa (nI i).toNatClampNeg = nI (D i) by rw [nI_clamp (by omega)]; exact hD i hi]
      by_cases hq : D i = L
      · exact br_t (congrArg nI hq) ⟨hin, nm_r (yr_up (R := fun w => F w && decide (D w = L)) (c := true) (by show (F i && decide (D i = L)) = true; rw [hc, decide_eq_true hq]; rfl) (by omega)) (nm_r (nI_1 i) ih)⟩
      · exact br_f (fun z => hq ((nI_eq (by omega) (by omega)).mp z)) ⟨hin, nm_r (yr_up (R := fun w => F w && decide (D w = L)) (c := false) (by show (F i && decide (D i = L)) = false; rw [decide_eq_false hq, Bool.and_false]) (by omega)) (nm_r (nI_1 i) ih)⟩)
  obtain ⟨m, hm⟩ := key
  refine ⟨m, ?_⟩
  have hm' : wY_revise_62 post (nI b) (nI L) (nI n) (nI (2 ^ n)) (nI (h + 1)) m (nI 0) he fm (fa_F re 0 (fun w => bi_I (F w && decide (D w = L))) 0) fa := hm
  rw [fa_0] at hm'
  exact hm'
theorem yp_revise {post : Int32 → SY → Prop} {A B F : Nat → Bool} {a b : Nat} (hn : n < 7) (hh : h < 8) (ha : a < 3) (hb : b < 3) (hA : ∀ w, w < 2 ^ n → he (64 * a + w) = bi_I (A w)) (hB : ∀ w, w < 2 ^ n → he (64 * b + w) = bi_I (B w)) (hF : ∀ w, w < 2 ^ n → fm (64 * h + w) = bi_I (F w)) (hp : ∀ re' fa', post (nI (pm_cn (fun w => F w && decide (pm_ds n B w = pm_mn (fun w => F w == true) (fun w => pm_ds n B w) 1000 (2 ^ n))) (2 ^ n))) (nI n, nI (2 ^ n), nI h, fa_F he (64 * b) (fun w => bi_I (F w && decide (pm_ds n B w = pm_mn (fun w => F w == true) (fun w => pm_ds n B w) 1000 (2 ^ n)))) (2 ^ n), fm, re', fa')) : ∃ m, wY_revise_22 post (nI b) (nI n) (nI (2 ^ n)) (nI (h + 1)) m 0 he fm re fa := by
  have hW := bb_W n hn
  have hD2 : ∀ w, pm_ds n B w < 1000 := by
    intro w
    have h1 := pm_ds_z n A w
    have h2 := pm_ds_z n B w
    omega
  have key := xl_up (fun m i => wY_revise_22 post (nI b) (nI n) (nI (2 ^ n)) (nI (h + 1)) m (nI i) he fm re (fa_F fa 0 (fun w => nI (pm_ds n B w)) i)) (2 ^ n) (fun m => br_t (nI_le (Nat.le_refl _) (xw_W31 hn)) (show wY_revise_54 _ _ _ _ _ _ _ _ _ from yw_least (t := true) (F := F) (D := fun w => pm_ds n B w) hn hh hF (fun w hw => y0_in hw) (fun w _ => hD2 w) (yq_revise3 (F := F) (D := fun w => pm_ds n B w) hn hh hb hF (fun w hw => y0_in hw) (fun w _ => hD2 w) (pm_mn_z _ _ _ _) (fun re' => hp re' _)))) (fun m i hi ih => by
    refine br_f (nI_ge hi (xw_W31 hn)) (br_f (nI_ge (b := 64) (by omega) (by decide)) ?_)
    have hin : vp_in (nI i) 64 := vp_in_nI (by omega) (by decide)
    exact yw_dist hn hb hi hB ⟨hin, nm_r (yd_up (D := fun w => pm_ds n B w) (by omega)) (nm_r (nI_1 i) ih)⟩)
  obtain ⟨m, hm⟩ := key
  refine ⟨m, ?_⟩
  have hm' : wY_revise_22 post (nI b) (nI n) (nI (2 ^ n)) (nI (h + 1)) m (nI 0) he fm re (fa_F fa 0 (fun w => nI (pm_ds n B w)) 0) := hm
  rw [fa_0] at hm'
  exact hm'
theorem yq_merge3 {post : Int32 → SY → Prop} {F : Nat → Bool} {D : Nat → Nat} {L : Nat} {b : Nat} (hn : n < 7) (hh : h < 8) (hb : b < 3) (hF : ∀ w, w < 2 ^ n → fm (64 * h + w) = bi_I (F w)) (hD : ∀ w, w < 2 ^ n → fa w = nI (D w)) (hD2 : ∀ w, w < 2 ^ n → D w < 1000) (hL : L ≤ 1000) (hp : ∀ re', post (nI (pm_cn (fun w => F w && decide (D w = L)) (2 ^ n))) (nI n, nI (2 ^ n), nI h, fa_F he (64 * b) (fun w => bi_I (F w && decide (D w = L))) (2 ^ n), fm, re', fa)) : ∃ m, wY_merge_78 post (nI b) (nI L) (nI n) (nI (2 ^ n)) (nI (h + 1)) m 0 he fm re fa := by
  have hW := bb_W n hn
  have key := xl_up (fun m i => wY_merge_78 post (nI b) (nI L) (nI n) (nI (2 ^ n)) (nI (h + 1)) m (nI i) he fm (fa_F re 0 (fun w => bi_I (F w && decide (D w = L))) i) fa) (2 ^ n) (fun m => br_t (nI_le (Nat.le_refl _) (xw_W31 hn)) (show wY_merge_132 _ _ _ _ _ _ _ _ _ from nm_r (nI_pred h) (yw_store hn hb (R := fun w => F w && decide (D w = L)) (fun w hw => y0_in hw) (hp _)))) (fun m i hi ih => by
    refine br_f (nI_ge hi (xw_W31 hn)) (br_f (nI_ge (b := 64) (by omega) (by decide)) (yw_top hh (by omega) (hF i hi) ?_))
    have hin : vp_in (nI i) 64 := vp_in_nI (by omega) (by decide)
    have hd := hD2 i hi
    cases hc : F i
    · exact br_t rfl ⟨hin, nm_r (yr_up (R := fun w => F w && decide (D w = L)) (c := false) (by show (F i && decide (D i = L)) = false; rw [hc]; rfl) (by omega)) (nm_r (nI_1 i) ih)⟩
    · refine br_f (by decide) ⟨hin, ?_⟩
      rw [show fa (nI i).toNatClampNeg = nI (D i) by rw [nI_clamp (by omega)]; exact hD i hi]
      by_cases hq : D i = L
      · exact br_t (congrArg nI hq) ⟨hin, nm_r (yr_up (R := fun w => F w && decide (D w = L)) (c := true) (by show (F i && decide (D i = L)) = true; rw [hc, decide_eq_true hq]; rfl) (by omega)) (nm_r (nI_1 i) ih)⟩
      · exact br_f (fun z => hq ((nI_eq (by omega) (by omega)).mp z)) ⟨hin, nm_r (yr_up (R := fun w => F w && decide (D w = L)) (c := false) (by show (F i && decide (D i = L)) = false; rw [decide_eq_false hq, Bool.and_false]) (by omega)) (nm_r (nI_1 i) ih)⟩)
  obtain ⟨m, hm⟩ := key
  refine ⟨m, ?_⟩
  have hm' : wY_merge_78 post (nI b) (nI L) (nI n) (nI (2 ^ n)) (nI (h + 1)) m (nI 0) he fm (fa_F re 0 (fun w => bi_I (F w && decide (D w = L))) 0) fa := hm
  rw [fa_0] at hm'
  exact hm'
theorem yp_merge {post : Int32 → SY → Prop} {A B F : Nat → Bool} {a b : Nat} (hn : n < 7) (hh : h < 8) (ha : a < 3) (hb : b < 3) (hA : ∀ w, w < 2 ^ n → he (64 * a + w) = bi_I (A w)) (hB : ∀ w, w < 2 ^ n → he (64 * b + w) = bi_I (B w)) (hF : ∀ w, w < 2 ^ n → fm (64 * h + w) = bi_I (F w)) (hp : ∀ re' fa', post (nI (pm_cn (fun w => F w && decide (pm_ds n A w + pm_ds n B w = pm_mn (fun w => F w == true) (fun w => pm_ds n A w + pm_ds n B w) 1000 (2 ^ n))) (2 ^ n))) (nI n, nI (2 ^ n), nI h, fa_F he (64 * b) (fun w => bi_I (F w && decide (pm_ds n A w + pm_ds n B w = pm_mn (fun w => F w == true) (fun w => pm_ds n A w + pm_ds n B w) 1000 (2 ^ n)))) (2 ^ n), fm, re', fa')) : ∃ m, wY_merge_30 post (nI a) (nI b) (nI n) (nI (2 ^ n)) (nI (h + 1)) m 0 he fm re fa := by
  have hW := bb_W n hn
  have hD2 : ∀ w, pm_ds n A w + pm_ds n B w < 1000 := by
    intro w
    have h1 := pm_ds_z n A w
    have h2 := pm_ds_z n B w
    omega
  have key := xl_up (fun m i => wY_merge_30 post (nI a) (nI b) (nI n) (nI (2 ^ n)) (nI (h + 1)) m (nI i) he fm re (fa_F fa 0 (fun w => nI (pm_ds n A w + pm_ds n B w)) i)) (2 ^ n) (fun m => br_t (nI_le (Nat.le_refl _) (xw_W31 hn)) (show wY_merge_69 _ _ _ _ _ _ _ _ _ from yw_least (t := true) (F := F) (D := fun w => pm_ds n A w + pm_ds n B w) hn hh hF (fun w hw => y0_in hw) (fun w _ => hD2 w) (yq_merge3 (F := F) (D := fun w => pm_ds n A w + pm_ds n B w) hn hh hb hF (fun w hw => y0_in hw) (fun w _ => hD2 w) (pm_mn_z _ _ _ _) (fun re' => hp re' _)))) (fun m i hi ih => by
    refine br_f (nI_ge hi (xw_W31 hn)) (br_f (nI_ge (b := 64) (by omega) (by decide)) ?_)
    have hin : vp_in (nI i) 64 := vp_in_nI (by omega) (by decide)
    exact yw_dist hn ha hi hA (yw_dist hn hb hi hB ⟨hin, nm_r ((congrArg (upd _ _) (nI_add _ _)).trans (yd_up (D := fun w => pm_ds n A w + pm_ds n B w) (by omega))) (nm_r (nI_1 i) ih)⟩))
  obtain ⟨m, hm⟩ := key
  refine ⟨m, ?_⟩
  have hm' : wY_merge_30 post (nI a) (nI b) (nI n) (nI (2 ^ n)) (nI (h + 1)) m (nI 0) he fm re (fa_F fa 0 (fun w => nI (pm_ds n A w + pm_ds n B w)) 0) := hm
  rw [fa_0] at hm'
  exact hm'
theorem yp_copy {post : Int32 → SY → Prop} {A : Nat → Bool} {a b : Nat} (hn : n < 7) (ha : a < 3) (hb : b < 3) (hA : ∀ w, w < 2 ^ n → he (64 * a + w) = bi_I (A w)) (hp : ∀ re', post (nI (pm_cn A (2 ^ n))) (nI n, nI (2 ^ n), hI, fa_F he (64 * b) (fun w => bi_I (A w)) (2 ^ n), fm, re', fa)) : ∃ m, wY_copy_20 post (nI a) (nI b) (nI n) (nI (2 ^ n)) hI m 0 he fm re fa := by
  have hW := bb_W n hn
  have key := xl_up (fun m i => wY_copy_20 post (nI a) (nI b) (nI n) (nI (2 ^ n)) hI m (nI i) he fm (fa_F re 0 (fun w => bi_I (A w)) i) fa) (2 ^ n) (fun m => br_t (nI_le (Nat.le_refl _) (xw_W31 hn)) (show wY_copy_52 _ _ _ _ _ _ _ _ _ from yw_store hn hb (R := A) (fun w hw => y0_in hw) (hp _))) (fun m i hi ih => by
    refine br_f (nI_ge hi (xw_W31 hn)) (br_f (nI_ge (b := 64) (by omega) (by decide)) (yw_in ha (by omega) (hA i hi) ?_))
    have hin : vp_in (nI i) 64 := vp_in_nI (by omega) (by decide)
    exact ⟨hin, nm_r (yr_up (R := A) (c := A i) rfl (by omega)) (nm_r (nI_1 i) ih)⟩)
  obtain ⟨m, hm⟩ := key
  refine ⟨m, ?_⟩
  have hm' : wY_copy_20 post (nI a) (nI b) (nI n) (nI (2 ^ n)) hI m (nI 0) he fm (fa_F re 0 (fun w => bi_I (A w)) 0) fa := hm
  rw [fa_0] at hm'
  exact hm'
theorem yp_forget {post : Int32 → SY → Prop} {B : Nat → Bool} {b v : Nat} (hn : n < 7) (hb : b < 3) (hv : v < n) (hB : ∀ w, w < 2 ^ n → he (64 * b + w) = bi_I (B w)) (hp : ∀ re', post (nI (pm_cn (fun w => B w || B (w ^^^ 2 ^ v)) (2 ^ n))) (nI n, nI (2 ^ n), hI, fa_F he (64 * b) (fun w => bi_I (B w || B (w ^^^ 2 ^ v))) (2 ^ n), fm, re', fa)) : ∃ m, wY_forget_23 post (nI b) (nI v) (nI n) (nI (2 ^ n)) hI m 0 he fm re fa := by
  have hW := bb_W n hn
  have key := xl_up (fun m i => wY_forget_23 post (nI b) (nI v) (nI n) (nI (2 ^ n)) hI m (nI i) he fm (fa_F re 0 (fun w => bi_I (B w || B (w ^^^ 2 ^ v))) i) fa) (2 ^ n) (fun m => br_t (nI_le (Nat.le_refl _) (xw_W31 hn)) (show wY_forget_76 _ _ _ _ _ _ _ _ _ from yw_store hn hb (R := fun w => B w || B (w ^^^ 2 ^ v)) (fun w hw => y0_in hw) (hp _))) (fun m i hi ih => by
    refine br_f (nI_ge hi (xw_W31 hn)) (br_f (nI_ge (b := 64) (by omega) (by decide)) (yw_in hb (by omega) (hB i hi) ?_))
    have hin : vp_in (nI i) 64 := vp_in_nI (by omega) (by decide)
    have hx : i ^^^ 2 ^ v < 2 ^ n := pm_xlt hi (pm_plt hv)
    cases hc : B i
    · refine br_t rfl ?_
      rw [bi_xor i (by omega)]
      refine yw_in hb (by omega) (hB _ hx) ?_
      cases hc2 : B (i ^^^ 2 ^ v)
      · exact br_t rfl ⟨hin, nm_r (yr_up (R := fun w => B w || B (w ^^^ 2 ^ v)) (c := false) (by show (B i || B (i ^^^ 2 ^ v)) = false; rw [hc, hc2]; rfl) (by omega)) (nm_r (nI_1 i) ih)⟩
      · exact br_f (by decide) ⟨hin, nm_r (yr_up (R := fun w => B w || B (w ^^^ 2 ^ v)) (c := true) (by show (B i || B (i ^^^ 2 ^ v)) = true; rw [hc, hc2]; rfl) (by omega)) (nm_r (nI_1 i) ih)⟩
    · exact br_f (by decide) ⟨hin, nm_r (yr_up (R := fun w => B w || B (w ^^^ 2 ^ v)) (c := true) (by show (B i || B (i ^^^ 2 ^ v)) = true; rw [hc]; rfl) (by omega)) (nm_r (nI_1 i) ih)⟩)
  obtain ⟨m, hm⟩ := key
  refine ⟨m, ?_⟩
  have hm' : wY_forget_23 post (nI b) (nI v) (nI n) (nI (2 ^ n)) hI m (nI 0) he fm (fa_F re 0 (fun w => bi_I (B w || B (w ^^^ 2 ^ v))) 0) fa := hm
  rw [fa_0] at hm'
  exact hm'
theorem yw_nearer {post : Int32 → Prop} {F : Nat → Bool} {u w : Nat} (hn : n < 7) (hh : h < 8) (hu : u < 2 ^ n) (hw : w < 2 ^ n) (hF : ∀ w, w < 2 ^ n → fm (64 * h + w) = bi_I (F w)) (hp : post (bi_I (pu_nr F (2 ^ n) u w))) : wpY_nearer post (nI n, nI (2 ^ n), nI (h + 1), he, fm, re, fa) (nI u) (nI w) := by
  have hW := bb_W n hn
  have huw := pm_xlt hu hw
  refine nm_r (nx_xor u w) (xl_find (fun x => F x && (decide (x ^^^ w ≠ u ^^^ w) && decide ((x ^^^ w) &&& (u ^^^ w) = x ^^^ w))) (fun m i => wY_nearer_7 post (nI w) (nI (u ^^^ w)) (nI n) (nI (2 ^ n)) (nI (h + 1)) he fm re fa m (nI i)) (2 ^ n) ?_ ?_)
  · intro hf m
    have hf' : pu_nr F (2 ^ n) u w = false := hf
    rw [hf'] at hp
    exact br_t (nI_le (Nat.le_refl _) (xw_W31 hn)) hp
  · intro m i hi k1 k2
    have k1' : (F i && (decide (i ^^^ w ≠ u ^^^ w) && decide ((i ^^^ w) &&& (u ^^^ w) = i ^^^ w))) = false → wY_nearer_7 post (nI w) (nI (u ^^^ w)) (nI n) (nI (2 ^ n)) (nI (h + 1)) he fm re fa m (nI (i + 1)) := k1
    have k2' : (F i && (decide (i ^^^ w ≠ u ^^^ w) && decide ((i ^^^ w) &&& (u ^^^ w) = i ^^^ w))) = true → pu_nr F (2 ^ n) u w = true := k2
    clear k1 k2
    have hiw := pm_xlt hi hw
    refine br_f (nI_ge hi (xw_W31 hn)) (nm_r (nx_xor i w) (yw_top hh (by omega) (hF i hi) ?_))
    cases hc : F i
    · exact br_t rfl (nm_r (nI_1 i) (k1' (by rw [hc]; rfl)))
    · refine br_f (by decide) ?_
      by_cases h1 : i ^^^ w = u ^^^ w
      · exact br_t (congrArg nI h1) (nm_r (nI_1 i) (k1' (by rw [decide_eq_false (fun z => z h1), Bool.false_and, Bool.and_false])))
      · refine br_f (fun z => h1 ((nI_eq (by omega) (by omega)).mp z)) ?_
        have ha : (i ^^^ w) &&& (u ^^^ w) < 2 ^ n := Nat.lt_of_le_of_lt Nat.and_le_left hiw
        by_cases h2 : (i ^^^ w) &&& (u ^^^ w) = i ^^^ w
        · refine br_t ((nx_and _ _).trans (congrArg nI h2)) ?_
          rw [k2' (by rw [hc, decide_eq_true h1, decide_eq_true h2]; rfl)] at hp
          exact hp
        · refine br_f (fun z => h2 ?_) (nm_r (nI_1 i) (k1' (by rw [decide_eq_false h2, Bool.and_false, Bool.and_false])))
          exact (nI_eq (by omega) (by omega)).mp ((nx_and _ _).symm.trans z)
theorem yw_reached {post : Int32 → Prop} {B F : Nat → Bool} {b u : Nat} (hn : n < 7) (hh : h < 8) (hb : b < 3) (hu : u < 2 ^ n) (hB : ∀ w, w < 2 ^ n → he (64 * b + w) = bi_I (B w)) (hF : ∀ w, w < 2 ^ n → fm (64 * h + w) = bi_I (F w)) (hp : post (bi_I (pm_ex (fun w => B w && !pu_nr F (2 ^ n) u w) (2 ^ n)))) : wpY_reached post (nI n, nI (2 ^ n), nI (h + 1), he, fm, re, fa) (nI b) (nI u) := by
  have hW := bb_W n hn
  refine xl_find (fun w => B w && !pu_nr F (2 ^ n) u w) (fun m i => wY_reached_2 post (nI b) (nI u) (nI n) (nI (2 ^ n)) (nI (h + 1)) he fm re fa m (nI i)) (2 ^ n) ?_ ?_
  · intro hf m
    rw [hf] at hp
    exact br_t (nI_le (Nat.le_refl _) (xw_W31 hn)) hp
  · intro m i hi k1 k2
    have k1' : (B i && !pu_nr F (2 ^ n) u i) = false → wY_reached_2 post (nI b) (nI u) (nI n) (nI (2 ^ n)) (nI (h + 1)) he fm re fa m (nI (i + 1)) := k1
    have k2' : (B i && !pu_nr F (2 ^ n) u i) = true → pm_ex (fun w => B w && !pu_nr F (2 ^ n) u w) (2 ^ n) = true := k2
    clear k1 k2
    refine br_f (nI_ge hi (xw_W31 hn)) (yw_in hb (by omega) (hB i hi) ?_)
    cases hc : B i
    · exact br_t rfl (nm_r (nI_1 i) (k1' (by rw [hc]; rfl)))
    · refine br_f (by decide) (yw_nearer hn hh hu hi hF ?_)
      cases hq : pu_nr F (2 ^ n) u i
      · refine br_t rfl ?_
        rw [k2' (by rw [hc, hq]; rfl)] at hp
        exact hp
      · exact br_f (by decide) (nm_r (nI_1 i) (k1' (by rw [hq]; simp)))
theorem yp_update {post : Int32 → SY → Prop} {B F : Nat → Bool} {b : Nat} (hn : n < 7) (hh : h < 8) (hb : b < 3) (hB : ∀ w, w < 2 ^ n → he (64 * b + w) = bi_I (B w)) (hF : ∀ w, w < 2 ^ n → fm (64 * h + w) = bi_I (F w)) (hp : ∀ re', post (nI (pm_cn (fun u => F u && pm_ex (fun w => B w && !pu_nr F (2 ^ n) u w) (2 ^ n)) (2 ^ n))) (nI n, nI (2 ^ n), nI h, fa_F he (64 * b) (fun u => bi_I (F u && pm_ex (fun w => B w && !pu_nr F (2 ^ n) u w) (2 ^ n))) (2 ^ n), fm, re', fa)) : ∃ m, wY_update_22 post (nI b) (nI n) (nI (2 ^ n)) (nI (h + 1)) m 0 he fm re fa := by
  have hW := bb_W n hn
  generalize hR : (fun u => F u && pm_ex (fun w => B w && !pu_nr F (2 ^ n) u w) (2 ^ n)) = R at hp
  have hR' : ∀ u, R u = (F u && pm_ex (fun w => B w && !pu_nr F (2 ^ n) u w) (2 ^ n)) := fun u => by rw [← hR]
  have hp' : ∀ re', post (nI (pm_cn R (2 ^ n))) (nI n, nI (2 ^ n), nI h, fa_F he (64 * b) (fun u => bi_I (R u)) (2 ^ n), fm, re', fa) := fun re' => by
    have h9 := hp re'
    simp only [← hR'] at h9
    exact h9
  have key := xl_up (fun m i => wY_update_22 post (nI b) (nI n) (nI (2 ^ n)) (nI (h + 1)) m (nI i) he fm (fa_F re 0 (fun w => bi_I (R w)) i) fa) (2 ^ n) (fun m => br_t (nI_le (Nat.le_refl _) (xw_W31 hn)) (show wY_update_70 _ _ _ _ _ _ _ _ _ from nm_r (nI_pred h) (yw_store hn hb (R := R) (fun w hw => y0_in hw) (hp' _)))) (fun m i hi ih => by
    refine br_f (nI_ge hi (xw_W31 hn)) (br_f (nI_ge (b := 64) (by omega) (by decide)) (yw_top hh (by omega) (hF i hi) ?_))
    have hin : vp_in (nI i) 64 := vp_in_nI (by omega) (by decide)
    cases hc : F i
    · exact br_t rfl ⟨hin, nm_r (yr_up (R := R) (c := false) (by rw [hR', hc]; rfl) (by omega)) (nm_r (nI_1 i) ih)⟩
    · refine br_f (by decide) (yw_reached hn hh hb hi hB hF ?_)
      cases hq : pm_ex (fun w => B w && !pu_nr F (2 ^ n) i w) (2 ^ n)
      · exact br_t rfl ⟨hin, nm_r (yr_up (R := R) (c := false) (by rw [hR', hq, Bool.and_false]) (by omega)) (nm_r (nI_1 i) ih)⟩
      · exact br_f (by decide) ⟨hin, nm_r (yr_up (R := R) (c := true) (by rw [hR', hq, hc]; rfl) (by omega)) (nm_r (nI_1 i) ih)⟩)
  obtain ⟨m, hm⟩ := key
  refine ⟨m, ?_⟩
  have hm' : wY_update_22 post (nI b) (nI n) (nI (2 ^ n)) (nI (h + 1)) m (nI 0) he fm (fa_F re 0 (fun w => bi_I (R w)) 0) fa := hm
  rw [fa_0] at hm'
  exact hm'
end
