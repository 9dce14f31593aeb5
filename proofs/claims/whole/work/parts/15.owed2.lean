/-! what is owed: the questions -/
theorem yw_empty {n : Nat} {hI : Int32} {he fm re fa : Nat → Int32} {post : Int32 → Prop} {B : Nat → Bool} {b : Nat} (hn : n < 7) (hb : b < 3) (hB : ∀ w, w < 2 ^ n → he (64 * b + w) = bi_I (B w)) (h1 : (∀ w, w < 2 ^ n → B w = false) → post 1) (h0 : (¬ ∀ w, w < 2 ^ n → B w = false) → post 0) : wpY_empty post (nI n, nI (2 ^ n), hI, he, fm, re, fa) (nI b) := by
  have hW := bb_W n hn
  have hle := pm_cn_le B (2 ^ n)
  unfold wpY_empty
  dsimp only
  unfold wpY_count
  dsimp only
  refine yb_ok hb (br_t rfl (ys_count hn hb hB ?_))
  by_cases hz : ∀ w, w < 2 ^ n → B w = false
  · refine br_t ?_ (h1 hz)
    rw [(pm_cn_0 B (2 ^ n)).mpr hz]; rfl
  · refine br_f (fun z => hz ((pm_cn_0 B (2 ^ n)).mp ?_)) (h0 hz)
    exact (nI_eq (by omega) (by decide)).mp (z.trans nI_0.symm)
theorem i_vc_truth {k : Nat} {u : SX} {v : SY} (I : i_Rel k u v) (hk : k + 4 ≤ 2049) (v1 : Int32) : wpX_truth (fun r => wpY_truth (fun r' => r' = r ∧ i_Rel (k + 4) u v) v v1) u v1 := by
  obtain ⟨n, h, B, F, be, fo, on, he, fm, re, fa, I, rfl, rfl⟩ := I
  have I' := I
  obtain ⟨⟨h2, h7, h8⟩, hbe, hfo, hon, hhe, hfm⟩ := I'
  have hW := bb_W n h7
  unfold wpX_truth
  dsimp only
  cases h with
  | zero =>
    refine br_t rfl ?_
    unfold wpY_truth
    dsimp only
    exact br_t rfl ⟨rfl, rl_mk I⟩
  | succ h =>
    have hh : h < 8 := by omega
    have hne : ¬ nI (h + 1) = 0 := nI_ne0 (by omega) (by omega)
    refine br_f hne ?_
    rcases bx_c v1 (2 ^ n) (xw_W31 h7) with hbad | ⟨w, hw, rfl⟩
    · refine xb_wbad hbad (br_t rfl ?_)
      unfold wpY_truth
      dsimp only
      exact br_f hne (yb_wbad hbad (br_f (by decide) ⟨rfl, rl_mk I⟩))
    · refine xb_wok h7 hw (br_f (by decide) ?_)
      rw [nI_pred, show (nI h).toNatClampNeg = h from nI_clamp (by omega), hfo h (by omega)]
      refine ⟨vp_in_nI hh (by decide), xw_inL h7 hw ?_⟩
      cases hq : F h w
      · refine br_t rfl ?_
        unfold wpY_truth
        dsimp only
        exact br_f hne (yb_wok h7 hw (br_t rfl (yw_top hh (by omega) ((hfm h (by omega) w hw).trans (congrArg bi_I hq)) (br_t rfl ⟨rfl, rl_mk I⟩))))
      · refine br_f (by decide) ?_
        unfold wpY_truth
        dsimp only
        exact br_f hne (yb_wok h7 hw (br_t rfl (yw_top hh (by omega) ((hfm h (by omega) w hw).trans (congrArg bi_I hq)) (br_f (by decide) ⟨rfl, rl_mk I⟩))))
theorem i_vc_holds {k : Nat} {u : SX} {v : SY} (I : i_Rel k u v) (hk : k + 4 ≤ 2049) (v1 : Int32) (v2 : Int32) : wpX_holds (fun r => wpY_holds (fun r' => r' = r ∧ i_Rel (k + 4) u v) v v1 v2) u v1 v2 := by
  obtain ⟨n, h, B, F, be, fo, on, he, fm, re, fa, I, rfl, rfl⟩ := I
  have I' := I
  obtain ⟨⟨h2, h7, h8⟩, hbe, hfo, hon, hhe, hfm⟩ := I'
  have hW := bb_W n h7
  unfold wpX_holds
  dsimp only
  rcases bx_c v1 3 (by decide) with hbad | ⟨b, hb, rfl⟩
  · refine xb_bad hbad (br_t rfl ?_)
    unfold wpY_holds
    dsimp only
    exact yb_bad hbad (br_f (by decide) ⟨rfl, rl_mk I⟩)
  · refine xb_ok hb (br_f (by decide) ?_)
    have hc : (nI b).toNatClampNeg = b := nI_clamp (by omega)
    rcases bx_c v2 (2 ^ n) (xw_W31 h7) with hbad | ⟨w, hw, rfl⟩
    · refine xb_wbad hbad (br_t rfl ?_)
      unfold wpY_holds
      dsimp only
      exact yb_ok hb (br_t rfl (yb_wbad hbad (br_f (by decide) ⟨rfl, rl_mk I⟩)))
    · refine xb_wok h7 hw (br_f (by decide) ?_)
      rw [hc, hbe b hb]
      refine ⟨vp_in_nI hb (by decide), xw_inL h7 hw ?_⟩
      cases hq : B b w
      · refine br_t rfl ?_
        unfold wpY_holds
        dsimp only
        exact yb_ok hb (br_t rfl (yb_wok h7 hw (br_t rfl (yw_in hb (by omega) ((hhe b hb w hw).trans (congrArg bi_I hq)) (br_t rfl ⟨rfl, rl_mk I⟩)))))
      · refine br_f (by decide) ?_
        unfold wpY_holds
        dsimp only
        exact yb_ok hb (br_t rfl (yb_wok h7 hw (br_t rfl (yw_in hb (by omega) ((hhe b hb w hw).trans (congrArg bi_I hq)) (br_f (by decide) ⟨rfl, rl_mk I⟩)))))
theorem i_vc_count {k : Nat} {u : SX} {v : SY} (I : i_Rel k u v) (hk : k + 4 ≤ 2049) (v1 : Int32) : wpX_count (fun r => wpY_count (fun r' => r' = r ∧ i_Rel (k + 4) u v) v v1) u v1 := by
  obtain ⟨n, h, B, F, be, fo, on, he, fm, re, fa, I, rfl, rfl⟩ := I
  have I' := I
  obtain ⟨⟨h2, h7, h8⟩, hbe, hfo, hon, hhe, hfm⟩ := I'
  have hW := bb_W n h7
  unfold wpX_count
  dsimp only
  rcases bx_c v1 3 (by decide) with hbad | ⟨b, hb, rfl⟩
  · refine xb_bad hbad (br_t rfl ?_)
    unfold wpY_count
    dsimp only
    exact yb_bad hbad (br_f (by decide) ⟨rfl, rl_mk I⟩)
  · refine xb_ok hb (br_f (by decide) ?_)
    have hc : (nI b).toNatClampNeg = b := nI_clamp (by omega)
    rw [hc, hbe b hb]
    refine ⟨vp_in_nI hb (by decide), xw_size h7 ?_⟩
    unfold wpY_count
    dsimp only
    exact yb_ok hb (br_t rfl (ys_count h7 hb (hhe b hb) ⟨rfl, rl_mk I⟩))
theorem i_vc_next {k : Nat} {u : SX} {v : SY} (I : i_Rel k u v) (hk : k + 4 ≤ 2049) (v1 : Int32) (v2 : Int32) : wpX_next (fun r => wpY_next (fun r' => r' = r ∧ i_Rel (k + 4) u v) v v1 v2) u v1 v2 := by
  obtain ⟨n, h, B, F, be, fo, on, he, fm, re, fa, I, rfl, rfl⟩ := I
  have I' := I
  obtain ⟨⟨h2, h7, h8⟩, hbe, hfo, hon, hhe, hfm⟩ := I'
  have hW := bb_W n h7
  unfold wpX_next
  dsimp only
  rcases bx_c v1 3 (by decide) with hbad | ⟨b, hb, rfl⟩
  · refine xb_bad hbad (br_t rfl ?_)
    unfold wpY_next
    dsimp only
    exact yb_bad hbad (br_f (by decide) ⟨rfl, rl_mk I⟩)
  · refine xb_ok hb (br_f (by decide) ?_)
    have hc : (nI b).toNatClampNeg = b := nI_clamp (by omega)
    obtain ⟨r, hX, hY⟩ := xq_next (e := bb_L (fun _ => true) (2 ^ n)) (hI := nI h) (fo := fo) (on := on) (fm := fm) (re := re) (fa := fa) (a := v2) h7 hb (hbe b hb) (hhe b hb) (2 ^ n) 0 (by omega)
    refine ⟨_, hX _ ?_⟩
    unfold wpY_next
    dsimp only
    exact yb_ok hb (br_t rfl ⟨_, hY _ ⟨rfl, rl_mk I⟩⟩)
theorem i_vc_entails {k : Nat} {u : SX} {v : SY} (I : i_Rel k u v) (hk : k + 4 ≤ 2049) (v1 : Int32) : wpX_entails (fun r => wpY_entails (fun r' => r' = r ∧ i_Rel (k + 4) u v) v v1) u v1 := by
  obtain ⟨n, h, B, F, be, fo, on, he, fm, re, fa, I, rfl, rfl⟩ := I
  have I' := I
  obtain ⟨⟨h2, h7, h8⟩, hbe, hfo, hon, hhe, hfm⟩ := I'
  have hW := bb_W n h7
  unfold wpX_entails
  dsimp only
  rcases bx_c v1 3 (by decide) with hbad | ⟨b, hb, rfl⟩
  · refine xb_bad hbad (br_t rfl ?_)
    unfold wpY_entails
    dsimp only
    exact yb_bad hbad (br_f (by decide) ⟨rfl, rl_mk I⟩)
  · refine xb_ok hb (br_f (by decide) ?_)
    have hc : (nI b).toNatClampNeg = b := nI_clamp (by omega)
    cases h with
    | zero =>
      refine br_t rfl ?_
      unfold wpY_entails
      dsimp only
      exact yb_ok hb (br_t rfl (br_t rfl ⟨rfl, rl_mk I⟩))
    | succ h =>
      have hh : h < 8 := by omega
      have hne : ¬ nI (h + 1) = 0 := nI_ne0 (by omega) (by omega)
      refine br_f hne ?_
      rw [nI_pred, show (nI h).toNatClampNeg = h from nI_clamp (by omega), hc, hbe b hb, hfo h (by omega), bb_Ldiff hW]
      refine ⟨vp_in_nI hb (by decide), vp_in_nI hh (by decide), ?_⟩
      have hfin : wpY_entails (fun r' => r' = bi_I (!pm_ex (fun w => B b w && !F h w) (2 ^ n)) ∧ i_Rel (k + 4) (nI n, nI (2 ^ n), bb_L (fun _ => true) (2 ^ n), nI (h + 1), be, fo, on) (nI n, nI (2 ^ n), nI (h + 1), he, fm, re, fa)) (nI n, nI (2 ^ n), nI (h + 1), he, fm, re, fa) (nI b) := by
        unfold wpY_entails
        dsimp only
        exact yb_ok hb (br_t rfl (br_f hne (ys_entails h7 hh hb (hhe b hb) (hfm h (by omega)) ⟨rfl, rl_mk I⟩)))
      cases hx : pm_ex (fun w => B b w && !F h w) (2 ^ n)
      · rw [hx] at hfin
        exact br_t ((bb_Lz hW).mpr ((pm_ex_f _ _).mp hx)) hfin
      · rw [hx] at hfin
        refine br_f (fun z => ?_) hfin
        rw [(pm_ex_f _ _).mpr ((bb_Lz hW).mp z)] at hx
        exact absurd hx (by decide)
theorem i_vc_distance {k : Nat} {u : SX} {v : SY} (I : i_Rel k u v) (hk : k + 4 ≤ 2049) (v1 : Int32) (v2 : Int32) : wpX_distance (fun r => wpY_distance (fun r' => r' = r ∧ i_Rel (k + 4) u v) v v1 v2) u v1 v2 := by
  obtain ⟨n, h, B, F, be, fo, on, he, fm, re, fa, I, rfl, rfl⟩ := I
  have I' := I
  obtain ⟨⟨h2, h7, h8⟩, hbe, hfo, hon, hhe, hfm⟩ := I'
  have hW := bb_W n h7
  unfold wpX_distance
  dsimp only
  rcases bx_c v1 3 (by decide) with hbad | ⟨a, ha, rfl⟩
  · refine xb_bad hbad (br_t rfl ?_)
    unfold wpY_distance
    dsimp only
    exact yb_bad hbad (br_f (by decide) ⟨rfl, rl_mk I⟩)
  · refine xb_ok ha (br_f (by decide) ?_)
    have hca : (nI a).toNatClampNeg = a := nI_clamp (by omega)
    rcases bx_c v2 3 (by decide) with hbad | ⟨b, hb, rfl⟩
    · refine xb_bad hbad (br_t rfl ?_)
      unfold wpY_distance
      dsimp only
      exact yb_ok ha (br_t rfl (yb_bad hbad (br_f (by decide) ⟨rfl, rl_mk I⟩)))
    · refine xb_ok hb (br_f (by decide) ⟨vp_in_nI ha (by decide), ?_⟩)
      have hc : (nI b).toNatClampNeg = b := nI_clamp (by omega)
      rw [hca, hc, hbe a ha, hbe b hb]
      by_cases hA : ∀ w, w < 2 ^ n → B a w = false
      · refine br_t ((bb_Lz hW).mpr hA) ?_
        unfold wpY_distance
        dsimp only
        exact yb_ok ha (br_t rfl (yb_ok hb (br_t rfl (yw_empty h7 ha (hhe a ha) (fun _ => br_f (by decide) ⟨rfl, rl_mk I⟩) (fun z => absurd hA z)))))
      · refine br_f (fun z => hA ((bb_Lz hW).mp z)) ⟨vp_in_nI hb (by decide), ?_⟩
        by_cases hB : ∀ w, w < 2 ^ n → B b w = false
        · refine br_t ((bb_Lz hW).mpr hB) ?_
          unfold wpY_distance
          dsimp only
          exact yb_ok ha (br_t rfl (yb_ok hb (br_t rfl (yw_empty h7 ha (hhe a ha) (fun z => absurd z hA) (fun _ => br_t rfl (yw_empty h7 hb (hhe b hb) (fun _ => br_f (by decide) ⟨rfl, rl_mk I⟩) (fun z => absurd hB z)))))))
        · refine br_f (fun z => hB ((bb_Lz hW).mp z)) (xq_distance h7 hon ha hb (hbe a ha) (hbe b hb) ?_)
          rw [pu_dist hA hB]
          unfold wpY_distance
          dsimp only
          exact yb_ok ha (br_t rfl (yb_ok hb (br_t rfl (yw_empty h7 ha (hhe a ha) (fun z => absurd z hA) (fun _ => br_t rfl (yw_empty h7 hb (hhe b hb) (fun z => absurd z hB) (fun _ => br_t rfl (nm_r (nI_1 n) (ys_distance h7 ha hb (hhe a ha) (hhe b hb) ⟨rfl, rl_mk I⟩))))))))) 
theorem i_vc_reach {k : Nat} {u : SX} {v : SY} (I : i_Rel k u v) (hk : k + 4 ≤ 2049) (v1 : Int32) (v2 : Int32) : wpX_reach (fun r => wpY_reach (fun r' => r' = r ∧ i_Rel (k + 4) u v) v v1 v2) u v1 v2 := by
  obtain ⟨n, h, B, F, be, fo, on, he, fm, re, fa, I, rfl, rfl⟩ := I
  have I' := I
  obtain ⟨⟨h2, h7, h8⟩, hbe, hfo, hon, hhe, hfm⟩ := I'
  have hW := bb_W n h7
  unfold wpX_reach
  dsimp only
  rcases bx_c v1 3 (by decide) with hbad | ⟨a, ha, rfl⟩
  · refine xb_bad hbad (br_t rfl ?_)
    unfold wpY_reach
    dsimp only
    exact yb_bad hbad (br_f (by decide) ⟨rfl, rl_mk I⟩)
  · refine xb_ok ha (br_f (by decide) ?_)
    have hca : (nI a).toNatClampNeg = a := nI_clamp (by omega)
    rcases bx_c v2 3 (by decide) with hbad | ⟨b, hb, rfl⟩
    · refine xb_bad hbad (br_t rfl ?_)
      unfold wpY_reach
      dsimp only
      exact yb_ok ha (br_t rfl (yb_bad hbad (br_f (by decide) ⟨rfl, rl_mk I⟩)))
    · refine xb_ok hb (br_f (by decide) ⟨vp_in_nI ha (by decide), ?_⟩)
      have hc : (nI b).toNatClampNeg = b := nI_clamp (by omega)
      rw [hca, hc, hbe a ha, hbe b hb]
      by_cases hA : ∀ w, w < 2 ^ n → B a w = false
      · refine br_t ((bb_Lz hW).mpr hA) ?_
        unfold wpY_reach
        dsimp only
        exact yb_ok ha (br_t rfl (yb_ok hb (br_t rfl (yw_empty h7 ha (hhe a ha) (fun _ => br_f (by decide) ⟨rfl, rl_mk I⟩) (fun z => absurd hA z)))))
      · refine br_f (fun z => hA ((bb_Lz hW).mp z)) ⟨vp_in_nI hb (by decide), ?_⟩
        by_cases hB : ∀ w, w < 2 ^ n → B b w = false
        · refine br_t ((bb_Lz hW).mpr hB) ?_
          unfold wpY_reach
          dsimp only
          exact yb_ok ha (br_t rfl (yb_ok hb (br_t rfl (yw_empty h7 ha (hhe a ha) (fun z => absurd z hA) (fun _ => br_t rfl (yw_empty h7 hb (hhe b hb) (fun _ => br_f (by decide) ⟨rfl, rl_mk I⟩) (fun z => absurd hB z)))))))
        · refine br_f (fun z => hB ((bb_Lz hW).mp z)) (xq_reach h7 hon ha hb (hbe a ha) (hbe b hb) ?_)
          unfold wpY_reach
          dsimp only
          exact yb_ok ha (br_t rfl (yb_ok hb (br_t rfl (yw_empty h7 ha (hhe a ha) (fun z => absurd z hA) (fun _ => br_t rfl (yw_empty h7 hb (hhe b hb) (fun z => absurd z hB) (fun _ => br_t rfl (ys_reach h7 ha hb (hhe a ha) (hhe b hb) ⟨rfl, rl_mk I⟩)))))))) 
theorem i_vc_matters {k : Nat} {u : SX} {v : SY} (I : i_Rel k u v) (hk : k + 4 ≤ 2049) (v1 : Int32) (v2 : Int32) : wpX_matters (fun r => wpY_matters (fun r' => r' = r ∧ i_Rel (k + 4) u v) v v1 v2) u v1 v2 := by
  obtain ⟨n, h, B, F, be, fo, on, he, fm, re, fa, I, rfl, rfl⟩ := I
  have I' := I
  obtain ⟨⟨h2, h7, h8⟩, hbe, hfo, hon, hhe, hfm⟩ := I'
  have hW := bb_W n h7
  unfold wpX_matters
  dsimp only
  rcases bx_c v1 3 (by decide) with hbad | ⟨b, hb, rfl⟩
  · refine xb_bad hbad (br_t rfl ?_)
    unfold wpY_matters
    dsimp only
    exact yb_bad hbad (br_f (by decide) ⟨rfl, rl_mk I⟩)
  · refine xb_ok hb (br_f (by decide) ?_)
    have hc : (nI b).toNatClampNeg = b := nI_clamp (by omega)
    rcases bx_c v2 n (by omega) with hbad | ⟨v, hv, rfl⟩
    · refine xb_vbad hbad (br_t rfl ?_)
      unfold wpY_matters
      dsimp only
      exact yb_ok hb (br_t rfl (yb_vbad hbad (br_f (by decide) ⟨rfl, rl_mk I⟩)))
    · refine xb_vok h7 hv (br_f (by decide) ⟨vp_in_nI hb (by decide), ?_⟩)
      rw [hc, hbe b hb]
      refine xw_turn h7 hon hv ⟨vp_in_nI hb (by decide), ?_⟩
      rw [bb_Ldiff hW]
      have hfin : wpY_matters (fun r' => r' = bi_I (pm_ex (fun w => B b w && !B b (w ^^^ 2 ^ v)) (2 ^ n)) ∧ i_Rel (k + 4) (nI n, nI (2 ^ n), bb_L (fun _ => true) (2 ^ n), nI h, be, fo, on) (nI n, nI (2 ^ n), nI h, he, fm, re, fa)) (nI n, nI (2 ^ n), nI h, he, fm, re, fa) (nI b) (nI v) := by
        unfold wpY_matters
        dsimp only
        exact yb_ok hb (br_t rfl (yb_vok h7 hv (br_t rfl (ys_matters h7 hb hv (hhe b hb) ⟨rfl, rl_mk I⟩))))
      cases hx : pm_ex (fun w => B b w && !B b (w ^^^ 2 ^ v)) (2 ^ n)
      · rw [hx] at hfin
        exact br_t ((bb_Lz hW).mpr ((pm_ex_f _ _).mp hx)) hfin
      · rw [hx] at hfin
        refine br_f (fun z => ?_) hfin
        rw [(pm_ex_f _ _).mpr ((bb_Lz hW).mp z)] at hx
        exact absurd hx (by decide)
theorem i_vc_defined {k : Nat} {u : SX} {v : SY} (I : i_Rel k u v) (hk : k + 4 ≤ 2049) (v1 : Int32) (v2 : Int32) (v3 : Int32) : wpX_defined (fun r => wpY_defined (fun r' => r' = r ∧ i_Rel (k + 4) u v) v v1 v2 v3) u v1 v2 v3 := by
  obtain ⟨n, h, B, F, be, fo, on, he, fm, re, fa, I, rfl, rfl⟩ := I
  have I' := I
  obtain ⟨⟨h2, h7, h8⟩, hbe, hfo, hon, hhe, hfm⟩ := I'
  have hW := bb_W n h7
  unfold wpX_defined
  dsimp only
  rcases bx_c v1 3 (by decide) with hbad | ⟨b, hb, rfl⟩
  · refine xb_bad hbad (br_t rfl ?_)
    unfold wpY_defined
    dsimp only
    exact yb_bad hbad (br_f (by decide) ⟨rfl, rl_mk I⟩)
  · refine xb_ok hb (br_f (by decide) ?_)
    have hc : (nI b).toNatClampNeg = b := nI_clamp (by omega)
    rcases bx_c v2 n (by omega) with hbad | ⟨v, hv, rfl⟩
    · refine xb_vbad hbad (br_t rfl ?_)
      unfold wpY_defined
      dsimp only
      exact yb_ok hb (br_t rfl (yb_vbad hbad (br_f (by decide) ⟨rfl, rl_mk I⟩)))
    · refine xb_vok h7 hv (br_f (by decide) ?_)
      have hcv : (nI v).toNatClampNeg = v := nI_clamp (by omega)
      rcases bx_c v3 (2 ^ n) (xw_W31 h7) with hbad | ⟨s, hs, rfl⟩
      · refine xb_wbad hbad (br_t rfl ?_)
        unfold wpY_defined
        dsimp only
        refine yb_ok hb (br_t rfl (yb_vok h7 hv (br_t rfl ?_)))
        by_cases h0 : v3 < 0
        · exact br_t h0 ⟨rfl, rl_mk I⟩
        · rcases hbad with z | z
          · exact absurd z h0
          · exact br_f h0 (br_f (Int32.not_lt.mpr z) ⟨rfl, rl_mk I⟩)
      · refine xb_wok h7 hs (br_f (by decide) ?_)
        rw [hc, hcv, hbe b hb, hon v hv]
        have i3 : vp_in (nI b) 3 := vp_in_nI hb (by decide)
        have i6 : vp_in (nI v) 6 := vp_in_nI (by omega) (by decide)
        refine ⟨i3, i6, nm_r (bb_Land hW) ⟨i3, i6, nm_r (bb_Ldiff hW) (xq_defined h7 hs ?_)⟩⟩
        rw [pu_def (B b) (fun w => Nat.testBit w v) (2 ^ n) s]
        unfold wpY_defined
        dsimp only
        exact yb_ok hb (br_t rfl (yb_vok h7 hv (br_t rfl (br_f (nI_pos (by omega)) (br_t (nI_lt hs (xw_W31 h7)) (ys_defined h7 hb hv hs (hhe b hb) ⟨rfl, rl_mk I⟩))))))
theorem i_vc_primes {k : Nat} {u : SX} {v : SY} (I : i_Rel k u v) (hk : k + 4 ≤ 2049) (v1 : Int32) : wpX_primes (fun r => wpY_primes (fun r' => r' = r ∧ i_Rel (k + 4) u v) v v1) u v1 := by
  obtain ⟨n, h, B, F, be, fo, on, he, fm, re, fa, I, rfl, rfl⟩ := I
  have I' := I
  obtain ⟨⟨h2, h7, h8⟩, hbe, hfo, hon, hhe, hfm⟩ := I'
  have hW := bb_W n h7
  unfold wpX_primes
  dsimp only
  rcases bx_c v1 3 (by decide) with hbad | ⟨b, hb, rfl⟩
  · refine xb_bad hbad (br_t rfl ?_)
    unfold wpY_primes
    dsimp only
    exact yb_bad hbad (br_f (by decide) ⟨rfl, rl_mk I⟩)
  · refine xb_ok hb (br_f (by decide) ?_)
    have hc : (nI b).toNatClampNeg = b := nI_clamp (by omega)
    refine xq_primes h7 hon hb (hbe b hb) ?_
    rw [pq_primes]
    unfold wpY_primes
    dsimp only
    exact yb_ok hb (br_t rfl (ys_primes h7 hb (hhe b hb) ⟨rfl, rl_mk I⟩))
