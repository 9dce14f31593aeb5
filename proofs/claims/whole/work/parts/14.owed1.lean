/-! what is owed: the calls that change something -/
theorem bi_4 {b : Int32} (h : nI 5 ≤ b) : ¬ b ≤ 4 := by
  intro z
  rw [Int32.le_iff_toInt_le] at h z
  have e1 : (nI 5).toInt = 5 := by decide
  have e2 : (4 : Int32).toInt = 4 := by decide
  omega
theorem jn_x {n : Nat} {hI : Int32} {be fo on : Nat → Int64} {post : Int64 → Prop} {k : Nat} {A C : Nat → Bool} (hn : n < 7) (h1 : 1 ≤ k) (h4 : k ≤ 4) (hp : post (bb_L (fun w => jn_j k (A w) (C w)) (2 ^ n))) : wpX_joinedBy post (nI n, nI (2 ^ n), bb_L (fun _ => true) (2 ^ n), hI, be, fo, on) (nI k) (bb_L A (2 ^ n)) (bb_L C (2 ^ n)) := by
  have hW := bb_W n hn
  have hk : k = 1 ∨ k = 2 ∨ k = 3 ∨ k = 4 := by omega
  rcases hk with rfl | rfl | rfl | rfl
  · exact br_f (by decide) (br_f (by decide) (br_t (by decide) (Eq.mpr (congrArg post (bb_Land hW)) hp)))
  · exact br_f (by decide) (br_f (by decide) (br_f (by decide) (br_t (by decide) (Eq.mpr (congrArg post (bb_Lor hW)) hp))))
  · exact br_f (by decide) (br_f (by decide) (br_f (by decide) (br_f (by decide) (br_t (by decide) (Eq.mpr (congrArg post (bb_Lxor hW)) hp)))))
  · refine br_f (by decide) (br_t (by decide) ?_)
    rw [bb_Ldiff hW, bb_Lor hW]
    exact hp
theorem i_vc_depth {k : Nat} {u : SX} {v : SY} (I : i_Rel k u v) (hk : k + 4 ≤ 2049) : wpX_depth (fun r => wpY_depth (fun r' => r' = r ∧ i_Rel (k + 4) u v) v) u := by
  obtain ⟨n, h, B, F, be, fo, on, he, fm, re, fa, I, rfl, rfl⟩ := I
  have I' := I
  obtain ⟨⟨h2, h7, h8⟩, hbe, hfo, hon, hhe, hfm⟩ := I'
  have hW := bb_W n h7
  exact ⟨rfl, rl_mk I⟩
theorem i_vc_atom {k : Nat} {u : SX} {v : SY} (I : i_Rel k u v) (hk : k + 4 ≤ 2049) (v1 : Int32) : wpX_atom (fun r u' => wpY_atom (fun r' v' => r' = r ∧ i_Rel (k + 4) u' v') v v1) u v1 := by
  obtain ⟨n, h, B, F, be, fo, on, he, fm, re, fa, I, rfl, rfl⟩ := I
  have I' := I
  obtain ⟨⟨h2, h7, h8⟩, hbe, hfo, hon, hhe, hfm⟩ := I'
  have hW := bb_W n h7
  unfold wpX_atom
  dsimp only
  rcases bx_c v1 n (by omega) with hbad | ⟨v, hv, rfl⟩
  · refine xb_vbad hbad (br_t rfl ?_)
    unfold wpY_atom
    dsimp only
    exact yb_vbad hbad (br_f (by decide) ⟨rfl, rl_mk I⟩)
  · refine xb_vok h7 hv (br_f (by decide) ?_)
    by_cases hh : h < 8
    · refine br_t (nI_lt (b := 8) hh (by decide)) ⟨vp_in_nI (by omega) (by decide), ?_⟩
      rw [nI_clamp (by omega), hon v hv]
      refine xw_put hh ?_
      unfold wpY_atom
      dsimp only
      exact yb_vok h7 hv (br_t rfl (br_f (fun z => by have z2 := (nI_eq (b := 8) (by omega) (by decide)).mp z; omega) (yp_atom h7 hh hv ⟨rfl, rl_mk (rl_push I hh)⟩)))
    · have h9 : h = 8 := by omega
      subst h9
      refine br_f (by decide) ?_
      unfold wpY_atom
      dsimp only
      exact yb_vok h7 hv (br_t rfl (br_t rfl ⟨rfl, rl_mk I⟩))
theorem i_vc_quote {k : Nat} {u : SX} {v : SY} (I : i_Rel k u v) (hk : k + 4 ≤ 2049) (v1 : Int32) : wpX_quote (fun r u' => wpY_quote (fun r' v' => r' = r ∧ i_Rel (k + 4) u' v') v v1) u v1 := by
  obtain ⟨n, h, B, F, be, fo, on, he, fm, re, fa, I, rfl, rfl⟩ := I
  have I' := I
  obtain ⟨⟨h2, h7, h8⟩, hbe, hfo, hon, hhe, hfm⟩ := I'
  have hW := bb_W n h7
  unfold wpX_quote
  dsimp only
  rcases bx_c v1 3 (by decide) with hbad | ⟨b, hb, rfl⟩
  · refine xb_bad hbad (br_t rfl ?_)
    unfold wpY_quote
    dsimp only
    exact yb_bad hbad (br_f (by decide) ⟨rfl, rl_mk I⟩)
  · refine xb_ok hb (br_f (by decide) ?_)
    by_cases hh : h < 8
    · refine br_t (nI_lt (b := 8) hh (by decide)) ⟨vp_in_nI (by omega) (by decide), ?_⟩
      rw [nI_clamp (by omega), hbe b hb]
      refine xw_put hh ?_
      unfold wpY_quote
      dsimp only
      exact yb_ok hb (br_t rfl (br_f (fun z => by have z2 := (nI_eq (b := 8) (by omega) (by decide)).mp z; omega) (yp_quote h7 hh hb (hhe b hb) ⟨rfl, rl_mk (rl_push I hh)⟩)))
    · have h9 : h = 8 := by omega
      subst h9
      refine br_f (by decide) ?_
      unfold wpY_quote
      dsimp only
      exact yb_ok hb (br_t rfl (br_t rfl ⟨rfl, rl_mk I⟩))
theorem i_vc_connect {k : Nat} {u : SX} {v : SY} (I : i_Rel k u v) (hk : k + 4 ≤ 2049) (v1 : Int32) : wpX_connect (fun r u' => wpY_connect (fun r' v' => r' = r ∧ i_Rel (k + 4) u' v') v v1) u v1 := by
  obtain ⟨n, h, B, F, be, fo, on, he, fm, re, fa, I, rfl, rfl⟩ := I
  have I' := I
  obtain ⟨⟨h2, h7, h8⟩, hbe, hfo, hon, hhe, hfm⟩ := I'
  have hW := bb_W n h7
  unfold wpX_connect
  dsimp only
  rcases bx_c v1 5 (by decide) with hbad | ⟨k', hk', rfl⟩
  · by_cases h0 : v1 < 0
    · refine br_t h0 ?_
      unfold wpY_connect
      dsimp only
      exact br_t h0 ⟨rfl, rl_mk I⟩
    · have h5 : ¬ v1 ≤ 4 := by
        rcases hbad with z | z
        · exact absurd z h0
        · exact bi_4 z
      refine br_f h0 (br_f h5 ?_)
      unfold wpY_connect
      dsimp only
      exact br_f h0 (br_f h5 ⟨rfl, rl_mk I⟩)
  · have h0 : ¬ nI k' < 0 := nI_pos (by omega)
    have h5 : nI k' ≤ 4 := nI_le (b := 4) (by omega) (by decide)
    refine br_f h0 (br_t h5 ?_)
    by_cases hz : k' = 0
    · subst hz
      refine br_t rfl ?_
      cases h with
      | zero =>
        refine br_f (by decide) ?_
        unfold wpY_connect
        dsimp only
        exact br_f h0 (br_t h5 (br_t rfl (br_f (by decide) ⟨rfl, rl_mk I⟩)))
      | succ h =>
        have hh : h < 8 := by omega
        have h1 : (1 : Int32) ≤ nI (h + 1) := nI_le (a := 1) (by omega) (by omega)
        refine br_t h1 (xw_take hh (br_t rfl ?_))
        rw [hfo h (by omega), bb_Ldiff hW]
        refine xw_put hh ?_
        unfold wpY_connect
        dsimp only
        refine br_f h0 (br_t h5 (br_t rfl (br_t h1 (nm_r (e' := nI (64 * h)) ?_ (br_t rfl (yp_not h7 hh (hfm h (by omega)) ⟨rfl, rl_mk (rl_push (rl_pop I) hh)⟩))))))
        rw [(bi_top h hh).1]
        exact pk_mul 64 h
    · have hne : ¬ nI k' = 0 := nI_ne0 (by omega) (by omega)
      refine br_f hne ?_
      by_cases hge : h < 2
      · have h1 : ¬ (2 : Int32) ≤ nI h := nI_ge (b := 2) hge (by decide)
        refine br_f h1 ?_
        unfold wpY_connect
        dsimp only
        exact br_f h0 (br_t h5 (br_f hne (br_f h1 ⟨rfl, rl_mk I⟩)))
      · obtain ⟨h, rfl⟩ : ∃ h', h = h' + 2 := ⟨h - 2, by omega⟩
        have hh : h < 7 := by omega
        have h1 : (2 : Int32) ≤ nI (h + 2) := nI_le (a := 2) (by omega) (by omega)
        refine br_t h1 (xw_take (h := h + 1) (by omega) (br_f hne (xw_take (by omega) ?_)))
        dsimp only
        rw [hfo h (by omega), hfo (h + 1) (by omega)]
        refine jn_x h7 (by omega) (by omega) (xw_put (by omega) ?_)
        unfold wpY_connect
        dsimp only
        refine br_f h0 (br_t h5 (br_f hne (br_t h1 (nm_r (e' := nI (64 * (h + 1))) ?_ (br_f hne (nm_r (e' := nI (64 * h)) ?_ (yp_join h7 hh (by omega) (by omega) (hfm h (by omega)) (hfm (h + 1) (by omega)) ⟨rfl, rl_mk (rl_push (rl_pop (rl_pop I)) (by omega))⟩)))))))
        · rw [(bi_top (h + 1) (by omega)).1]
          exact pk_mul 64 (h + 1)
        · rw [bi_und h hh]
          exact pk_mul 64 h
theorem i_vc_expand {k : Nat} {u : SX} {v : SY} (I : i_Rel k u v) (hk : k + 4 ≤ 2049) (v1 : Int32) : wpX_expand (fun r u' => wpY_expand (fun r' v' => r' = r ∧ i_Rel (k + 4) u' v') v v1) u v1 := by
  obtain ⟨n, h, B, F, be, fo, on, he, fm, re, fa, I, rfl, rfl⟩ := I
  have I' := I
  obtain ⟨⟨h2, h7, h8⟩, hbe, hfo, hon, hhe, hfm⟩ := I'
  have hW := bb_W n h7
  unfold wpX_expand
  dsimp only
  rcases bx_c v1 3 (by decide) with hbad | ⟨b, hb, rfl⟩
  · refine xb_bad hbad (br_t rfl ?_)
    unfold wpY_expand
    dsimp only
    exact yb_bad hbad (br_f (by decide) ⟨rfl, rl_mk I⟩)
  · refine xb_ok hb (br_f (by decide) ?_)
    have hc : (nI b).toNatClampNeg = b := nI_clamp (by omega)
    cases h with
    | zero =>
      refine br_t rfl ?_
      unfold wpY_expand
      dsimp only
      exact yb_ok hb (br_t rfl (br_t rfl ⟨rfl, rl_mk I⟩))
    | succ h =>
      have hh : h < 8 := by omega
      have hne : ¬ nI (h + 1) = 0 := nI_ne0 (by omega) (by omega)
      refine br_f hne (xw_take hh ?_)
      dsimp only
      refine ⟨vp_in_nI hb (by decide), ?_⟩
      rw [hc, hbe b hb, hfo h (by omega), bb_Land hW]
      refine xw_become h7 hb ?_
      unfold wpY_expand
      dsimp only
      exact yb_ok hb (br_t rfl (br_f hne (yp_expand h7 hh hb (hhe b hb) (hfm h (by omega)) (fun re' => ⟨rfl, rl_mk (rl_set (rl_pop I) hb)⟩))))
theorem i_vc_revise {k : Nat} {u : SX} {v : SY} (I : i_Rel k u v) (hk : k + 4 ≤ 2049) (v1 : Int32) : wpX_revise (fun r u' => wpY_revise (fun r' v' => r' = r ∧ i_Rel (k + 4) u' v') v v1) u v1 := by
  obtain ⟨n, h, B, F, be, fo, on, he, fm, re, fa, I, rfl, rfl⟩ := I
  have I' := I
  obtain ⟨⟨h2, h7, h8⟩, hbe, hfo, hon, hhe, hfm⟩ := I'
  have hW := bb_W n h7
  unfold wpX_revise
  dsimp only
  rcases bx_c v1 3 (by decide) with hbad | ⟨b, hb, rfl⟩
  · refine xb_bad hbad (br_t rfl ?_)
    unfold wpY_revise
    dsimp only
    exact yb_bad hbad (br_f (by decide) ⟨rfl, rl_mk I⟩)
  · refine xb_ok hb (br_f (by decide) ?_)
    have hc : (nI b).toNatClampNeg = b := nI_clamp (by omega)
    cases h with
    | zero =>
      refine br_t rfl ?_
      unfold wpY_revise
      dsimp only
      exact yb_ok hb (br_t rfl (br_t rfl ⟨rfl, rl_mk I⟩))
    | succ h =>
      have hh : h < 8 := by omega
      have hne : ¬ nI (h + 1) = 0 := nI_ne0 (by omega) (by omega)
      refine br_f hne (xw_take hh ?_)
      dsimp only
      refine ⟨vp_in_nI hb (by decide), vp_in_nI hb (by decide), ?_⟩
      rw [hc, hbe b hb, hfo h (by omega)]
      refine xw_near h7 hon ?_
      rw [rl_rev h7]
      refine xw_become h7 hb ?_
      unfold wpY_revise
      dsimp only
      exact yb_ok hb (br_t rfl (br_f hne (yp_revise (A := B b) h7 hh hb hb (hhe b hb) (hhe b hb) (hfm h (by omega)) (fun re' fa' => ⟨rfl, rl_mk (rl_set (rl_pop I) hb)⟩))))
theorem i_vc_update {k : Nat} {u : SX} {v : SY} (I : i_Rel k u v) (hk : k + 4 ≤ 2049) (v1 : Int32) : wpX_update (fun r u' => wpY_update (fun r' v' => r' = r ∧ i_Rel (k + 4) u' v') v v1) u v1 := by
  obtain ⟨n, h, B, F, be, fo, on, he, fm, re, fa, I, rfl, rfl⟩ := I
  have I' := I
  obtain ⟨⟨h2, h7, h8⟩, hbe, hfo, hon, hhe, hfm⟩ := I'
  have hW := bb_W n h7
  unfold wpX_update
  dsimp only
  rcases bx_c v1 3 (by decide) with hbad | ⟨b, hb, rfl⟩
  · refine xb_bad hbad (br_t rfl ?_)
    unfold wpY_update
    dsimp only
    exact yb_bad hbad (br_f (by decide) ⟨rfl, rl_mk I⟩)
  · refine xb_ok hb (br_f (by decide) ?_)
    have hc : (nI b).toNatClampNeg = b := nI_clamp (by omega)
    cases h with
    | zero =>
      refine br_t rfl ?_
      unfold wpY_update
      dsimp only
      exact yb_ok hb (br_t rfl (br_t rfl ⟨rfl, rl_mk I⟩))
    | succ h =>
      have hh : h < 8 := by omega
      have hne : ¬ nI (h + 1) = 0 := nI_ne0 (by omega) (by omega)
      refine br_f hne (xw_take hh ?_)
      dsimp only
      rw [hfo h (by omega)]
      refine xq_update h7 hb (hbe b hb) ?_
      have eR : (fun u => pm_ex (fun w => B b w && (F h u && !pu_nr (F h) (2 ^ n) u w)) (2 ^ n)) = fun u => F h u && pm_ex (fun w => B b w && !pu_nr (F h) (2 ^ n) u w) (2 ^ n) := funext (fun u => pu_up (F h) (B b) (2 ^ n) u)
      rw [eR]
      unfold wpY_update
      dsimp only
      exact yb_ok hb (br_t rfl (br_f hne (yp_update h7 hh hb (hhe b hb) (hfm h (by omega)) (fun re' => ⟨rfl, rl_mk (rl_set (rl_pop I) hb)⟩))))
theorem i_vc_giveUp {k : Nat} {u : SX} {v : SY} (I : i_Rel k u v) (hk : k + 4 ≤ 2049) (v1 : Int32) : wpX_giveUp (fun r u' => wpY_giveUp (fun r' v' => r' = r ∧ i_Rel (k + 4) u' v') v v1) u v1 := by
  obtain ⟨n, h, B, F, be, fo, on, he, fm, re, fa, I, rfl, rfl⟩ := I
  have I' := I
  obtain ⟨⟨h2, h7, h8⟩, hbe, hfo, hon, hhe, hfm⟩ := I'
  have hW := bb_W n h7
  unfold wpX_giveUp
  dsimp only
  rcases bx_c v1 3 (by decide) with hbad | ⟨b, hb, rfl⟩
  · refine xb_bad hbad (br_t rfl ?_)
    unfold wpY_giveUp
    dsimp only
    exact yb_bad hbad (br_f (by decide) ⟨rfl, rl_mk I⟩)
  · refine xb_ok hb (br_f (by decide) ?_)
    have hc : (nI b).toNatClampNeg = b := nI_clamp (by omega)
    cases h with
    | zero =>
      refine br_t rfl ?_
      unfold wpY_giveUp
      dsimp only
      exact yb_ok hb (br_t rfl (br_t rfl ⟨rfl, rl_mk I⟩))
    | succ h =>
      have hh : h < 8 := by omega
      have hne : ¬ nI (h + 1) = 0 := nI_ne0 (by omega) (by omega)
      refine br_f hne (xw_take hh ?_)
      dsimp only
      refine ⟨vp_in_nI hb (by decide), nm_r (e' := bb_L (B b) (2 ^ n)) (by rw [hc]; exact hbe b hb) ?_⟩
      rw [hfo h (by omega), bb_Ldiff hW]
      have hfin : ∀ R, R = gu_R n (B b) (F h) → wpY_giveUp (fun r' v' => r' = nI (pm_cn R (2 ^ n)) ∧ i_Rel (k + 4) (nI n, nI (2 ^ n), bb_L (fun _ => true) (2 ^ n), nI h, vp_updL be b (bb_L R (2 ^ n)), fo, on) v') (nI n, nI (2 ^ n), nI (h + 1), he, fm, re, fa) (nI b) := by
        intro R hR
        subst hR
        unfold wpY_giveUp
        dsimp only
        exact yb_ok hb (br_t rfl (br_f hne (yp_giveUp h7 hh hb (hhe b hb) (hfm h (by omega)) (fun re' fa' => ⟨rfl, rl_mk (rl_set (rl_pop I) hb)⟩))))
      cases hx : pm_ex (fun w => B b w && !F h w) (2 ^ n)
      · refine br_t ((bb_Lz hW).mpr ((pm_ex_f _ _).mp hx)) ?_
        rw [bb_Ldiff hW]
        refine xw_near h7 hon ?_
        rw [rl_giv h7, bb_Lor hW]
        refine xw_become h7 hb (hfin _ ?_)
        exact (if_neg (by rw [hx]; decide)).symm
      · refine br_f (fun z => ?_) ?_
        · rw [(pm_ex_f _ _).mpr ((bb_Lz hW).mp z)] at hx
          exact absurd hx (by decide)
        · refine xw_become h7 hb (hfin _ ?_)
          exact (if_pos hx).symm
theorem i_vc_forget {k : Nat} {u : SX} {v : SY} (I : i_Rel k u v) (hk : k + 4 ≤ 2049) (v1 : Int32) (v2 : Int32) : wpX_forget (fun r u' => wpY_forget (fun r' v' => r' = r ∧ i_Rel (k + 4) u' v') v v1 v2) u v1 v2 := by
  obtain ⟨n, h, B, F, be, fo, on, he, fm, re, fa, I, rfl, rfl⟩ := I
  have I' := I
  obtain ⟨⟨h2, h7, h8⟩, hbe, hfo, hon, hhe, hfm⟩ := I'
  have hW := bb_W n h7
  unfold wpX_forget
  dsimp only
  rcases bx_c v1 3 (by decide) with hbad | ⟨b, hb, rfl⟩
  · refine xb_bad hbad (br_t rfl ?_)
    unfold wpY_forget
    dsimp only
    exact yb_bad hbad (br_f (by decide) ⟨rfl, rl_mk I⟩)
  · refine xb_ok hb (br_f (by decide) ?_)
    have hc : (nI b).toNatClampNeg = b := nI_clamp (by omega)
    rcases bx_c v2 n (by omega) with hbad | ⟨v, hv, rfl⟩
    · refine xb_vbad hbad (br_t rfl ?_)
      unfold wpY_forget
      dsimp only
      exact yb_ok hb (br_t rfl (yb_vbad hbad (br_f (by decide) ⟨rfl, rl_mk I⟩)))
    · refine xb_vok h7 hv (br_f (by decide) ⟨vp_in_nI hb (by decide), ?_⟩)
      rw [hc, hbe b hb]
      refine xw_turn h7 hon hv ⟨vp_in_nI hb (by decide), ?_⟩
      rw [bb_Lor hW]
      refine xw_become h7 hb ?_
      unfold wpY_forget
      dsimp only
      exact yb_ok hb (br_t rfl (yb_vok h7 hv (br_t rfl (yp_forget h7 hb hv (hhe b hb) (fun re' => ⟨rfl, rl_mk (rl_set I hb)⟩)))))
theorem i_vc_merge {k : Nat} {u : SX} {v : SY} (I : i_Rel k u v) (hk : k + 4 ≤ 2049) (v1 : Int32) (v2 : Int32) : wpX_merge (fun r u' => wpY_merge (fun r' v' => r' = r ∧ i_Rel (k + 4) u' v') v v1 v2) u v1 v2 := by
  obtain ⟨n, h, B, F, be, fo, on, he, fm, re, fa, I, rfl, rfl⟩ := I
  have I' := I
  obtain ⟨⟨h2, h7, h8⟩, hbe, hfo, hon, hhe, hfm⟩ := I'
  have hW := bb_W n h7
  unfold wpX_merge
  dsimp only
  rcases bx_c v1 3 (by decide) with hbad | ⟨a, ha, rfl⟩
  · refine xb_bad hbad (br_t rfl ?_)
    unfold wpY_merge
    dsimp only
    exact yb_bad hbad (br_f (by decide) ⟨rfl, rl_mk I⟩)
  · refine xb_ok ha (br_f (by decide) ?_)
    have hca : (nI a).toNatClampNeg = a := nI_clamp (by omega)
    rcases bx_c v2 3 (by decide) with hbad | ⟨b, hb, rfl⟩
    · refine xb_bad hbad (br_t rfl ?_)
      unfold wpY_merge
      dsimp only
      exact yb_ok ha (br_t rfl (yb_bad hbad (br_f (by decide) ⟨rfl, rl_mk I⟩)))
    · refine xb_ok hb (br_f (by decide) ?_)
      have hc : (nI b).toNatClampNeg = b := nI_clamp (by omega)
      cases h with
      | zero =>
        refine br_t rfl ?_
        unfold wpY_merge
        dsimp only
        exact yb_ok ha (br_t rfl (yb_ok hb (br_t rfl (br_t rfl ⟨rfl, rl_mk I⟩))))
      | succ h =>
        have hh : h < 8 := by omega
        have hne : ¬ nI (h + 1) = 0 := nI_ne0 (by omega) (by omega)
        refine br_f hne (xw_take hh ?_)
        dsimp only
        refine ⟨vp_in_nI ha (by decide), vp_in_nI hb (by decide), ?_⟩
        rw [hca, hc, hbe a ha, hbe b hb, hfo h (by omega)]
        refine xw_near h7 hon ?_
        rw [rl_mrg h7]
        refine xw_become h7 hb ?_
        unfold wpY_merge
        dsimp only
        exact yb_ok ha (br_t rfl (yb_ok hb (br_t rfl (br_f hne (yp_merge h7 hh ha hb (hhe a ha) (hhe b hb) (hfm h (by omega)) (fun re' fa' => ⟨rfl, rl_mk (rl_set (rl_pop I) hb)⟩))))))
theorem i_vc_copy {k : Nat} {u : SX} {v : SY} (I : i_Rel k u v) (hk : k + 4 ≤ 2049) (v1 : Int32) (v2 : Int32) : wpX_copy (fun r u' => wpY_copy (fun r' v' => r' = r ∧ i_Rel (k + 4) u' v') v v1 v2) u v1 v2 := by
  obtain ⟨n, h, B, F, be, fo, on, he, fm, re, fa, I, rfl, rfl⟩ := I
  have I' := I
  obtain ⟨⟨h2, h7, h8⟩, hbe, hfo, hon, hhe, hfm⟩ := I'
  have hW := bb_W n h7
  unfold wpX_copy
  dsimp only
  rcases bx_c v1 3 (by decide) with hbad | ⟨a, ha, rfl⟩
  · refine xb_bad hbad (br_t rfl ?_)
    unfold wpY_copy
    dsimp only
    exact yb_bad hbad (br_f (by decide) ⟨rfl, rl_mk I⟩)
  · refine xb_ok ha (br_f (by decide) ?_)
    have hca : (nI a).toNatClampNeg = a := nI_clamp (by omega)
    rcases bx_c v2 3 (by decide) with hbad | ⟨b, hb, rfl⟩
    · refine xb_bad hbad (br_t rfl ?_)
      unfold wpY_copy
      dsimp only
      exact yb_ok ha (br_t rfl (yb_bad hbad (br_f (by decide) ⟨rfl, rl_mk I⟩)))
    · refine xb_ok hb (br_f (by decide) ⟨vp_in_nI ha (by decide), ?_⟩)
      rw [hca, hbe a ha]
      refine xw_become h7 hb ?_
      unfold wpY_copy
      dsimp only
      exact yb_ok ha (br_t rfl (yb_ok hb (br_t rfl (yp_copy h7 ha hb (hhe a ha) (fun re' => ⟨rfl, rl_mk (rl_set I hb)⟩)))))
