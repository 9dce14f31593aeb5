/-! the reference's own methods, each with a general post -/
section
variable {n h : Nat} {hI : Int32} {he fm re fa : Nat → Int32}
theorem yw_ix {b w N : Nat} (hN : 64 * b + w < N) (hN2 : N < 2 ^ 31) : vp_in ((64 * nI b) + nI w) N ∧ ((64 * nI b) + nI w).toNatClampNeg = 64 * b + w := by
  rw [bi_64]
  exact ⟨vp_in_nI hN hN2, nI_clamp (by omega)⟩
theorem yw_in {post : Int32 → Prop} {b w : Nat} {c : Bool} (hb : b < 3) (hw : w < 64) (hc : he (64 * b + w) = bi_I c) (hp : post (bi_I c)) : wpY_in post (nI n, nI (2 ^ n), hI, he, fm, re, fa) (nI b) (nI w) := by
  have h1 := yw_ix (b := b) (w := w) (N := 192) (by omega) (by decide)
  refine ⟨h1.1, ?_⟩
  rw [h1.2, hc]
  exact ⟨bi_n c, hp⟩
theorem yw_top {post : Int32 → Prop} {w : Nat} {c : Bool} (hh : h < 8) (hw : w < 64) (hc : fm (64 * h + w) = bi_I c) (hp : post (bi_I c)) : wpY_top post (nI n, nI (2 ^ n), nI (h + 1), he, fm, re, fa) (nI w) := by
  have h1 := yw_ix (b := h) (w := w) (N := 512) (by omega) (by decide)
  unfold wpY_top
  dsimp only
  rw [(bi_top h hh).1, h1.2, hc]
  exact ⟨h1.1, bi_n c, hp⟩
theorem yw_val {post : Int32 → Prop} {u : SY} {w v : Nat} (hw : w < 64) (hv : v < 6) (hp : post (bi_I (Nat.testBit w v))) : wpY_valueOf post u (nI w) (nI v) := by
  obtain ⟨a, b, c, d, f, g, i⟩ := u
  exact Eq.mpr (congrArg post (bi_valY w hw v hv)) hp
theorem yw_apart {post : Int32 → Prop} {u w : Nat} (hn : n < 7) (hu : u < 2 ^ n) (hw : w < 2 ^ n) (hp : post (nI (pm_pc n (u ^^^ w)))) : wpY_apart post (nI n, nI (2 ^ n), hI, he, fm, re, fa) (nI u) (nI w) := by
  have hW := bb_W n hn
  refine xl_up (fun m i => wY_apart_5 post (nI u) (nI w) (nI n) (nI (2 ^ n)) hI he fm re fa m (nI (pm_cn (fun v => Nat.testBit (u ^^^ w) v) i)) (nI i)) n (fun m => br_t (nI_le (Nat.le_refl _) (by omega)) hp) (fun m i hi ih => ?_)
  refine br_f (nI_ge hi (by omega)) (yw_val (by omega) (by omega) (yw_val (by omega) (by omega) ?_))
  have ih' : wY_apart_5 post (nI u) (nI w) (nI n) (nI (2 ^ n)) hI he fm re fa m (nI (pm_cn (fun v => Nat.testBit (u ^^^ w) v) (i + 1))) (nI (i + 1)) := ih
  clear ih
  have et : Nat.testBit (u ^^^ w) i = (Nat.testBit u i ^^ Nat.testBit w i) := Nat.testBit_xor _ _ _
  by_cases hb : Nat.testBit u i = Nat.testBit w i
  · have e1 : pm_cn (fun v => Nat.testBit (u ^^^ w) v) (i + 1) = pm_cn (fun v => Nat.testBit (u ^^^ w) v) i := if_neg (by show ¬ Nat.testBit (u ^^^ w) i = true; rw [et, hb, Bool.xor_self]; decide)
    rw [e1] at ih'
    exact br_t ((bi_eq _ _).mpr hb) (nm_r (nI_1 i) ih')
  · have e1 : pm_cn (fun v => Nat.testBit (u ^^^ w) v) (i + 1) = pm_cn (fun v => Nat.testBit (u ^^^ w) v) i + 1 := if_pos (by
      show Nat.testBit (u ^^^ w) i = true
      rw [et]
      revert hb
      cases Nat.testBit u i <;> cases Nat.testBit w i <;> simp)
    rw [e1] at ih'
    exact br_f (fun z => hb ((bi_eq _ _).mp z)) (nm_r (nI_1 _) (nm_r (nI_1 i) ih'))
theorem yw_dist {post : Int32 → Prop} {S : Nat → Bool} {b u : Nat} (hn : n < 7) (hb : b < 3) (hu : u < 2 ^ n) (hS : ∀ w, w < 2 ^ n → he (64 * b + w) = bi_I (S w)) (hp : post (nI (pm_ds n S u))) : wpY_distanceFrom post (nI n, nI (2 ^ n), hI, he, fm, re, fa) (nI b) (nI u) := by
  have hW := bb_W n hn
  refine nm_r (nI_1 n) (xl_up (fun m i => wY_distanceFrom_10 post (nI b) (nI u) (nI n) (nI (2 ^ n)) hI he fm re fa m (nI (pm_mn S (fun w => pm_pc n (u ^^^ w)) (n + 1) i)) (nI i)) (2 ^ n) (fun m => br_t (nI_le (Nat.le_refl _) (xw_W31 hn)) hp) (fun m i hi ih => ?_))
  refine br_f (nI_ge hi (xw_W31 hn)) (yw_in hb (by omega) (hS i hi) ?_)
  have ih' : wY_distanceFrom_10 post (nI b) (nI u) (nI n) (nI (2 ^ n)) hI he fm re fa m (nI (pm_mn S (fun w => pm_pc n (u ^^^ w)) (n + 1) (i + 1))) (nI (i + 1)) := ih
  clear ih
  rw [pm_mn_s] at ih'
  have hz := pm_mn_z S (fun w => pm_pc n (u ^^^ w)) (n + 1) i
  have hpc := pm_pc_le n (u ^^^ i)
  cases hC : S i
  · rw [if_neg (by rw [hC]; decide)] at ih'
    exact br_t rfl (nm_r (nI_1 i) ih')
  · rw [if_pos hC] at ih'
    refine br_f (by decide) (yw_apart hn hu hi ?_)
    by_cases hlt : pm_pc n (u ^^^ i) < pm_mn S (fun w => pm_pc n (u ^^^ w)) (n + 1) i
    · rw [if_pos hlt] at ih'
      exact br_f (nI_ge hlt (by omega)) (nm_r (nI_1 i) ih')
    · rw [if_neg hlt] at ih'
      exact br_t (nI_le (by omega) (by omega)) (nm_r (nI_1 i) ih')
theorem yw_store {post : Int32 → SY → Prop} {R : Nat → Bool} {b : Nat} (hn : n < 7) (hb : b < 3) (hR : ∀ w, w < 2 ^ n → re w = bi_I (R w)) (hp : post (nI (pm_cn R (2 ^ n))) (nI n, nI (2 ^ n), hI, fa_F he (64 * b) (fun w => bi_I (R w)) (2 ^ n), fm, re, fa)) : wpY_store post (nI n, nI (2 ^ n), hI, he, fm, re, fa) (nI b) := by
  have hW := bb_W n hn
  have key := xl_up (fun m i => wY_store_4 post (nI b) (nI n) (nI (2 ^ n)) hI m (nI (pm_cn R i)) (nI i) (fa_F he (64 * b) (fun w => bi_I (R w)) i) fm re fa) (2 ^ n) (fun m => br_t (nI_le (Nat.le_refl _) (xw_W31 hn)) hp) (fun m i hi ih => by
    have ih' : wY_store_4 post (nI b) (nI n) (nI (2 ^ n)) hI m (nI (pm_cn R (i + 1))) (nI (i + 1)) (fa_F he (64 * b) (fun w => bi_I (R w)) (i + 1)) fm re fa := ih
    clear ih
    have h1 := yw_ix (b := b) (w := i) (N := 192) (by omega) (by decide)
    have h2 : (nI i).toNatClampNeg = i := nI_clamp (by omega)
    have h3 : vp_in (nI i) 64 := vp_in_nI (by omega) (by decide)
    refine br_f (nI_ge hi (xw_W31 hn)) (br_f (nI_ge (b := 64) (by omega) (by decide)) ⟨h3, h1.1, nm_r (e' := fa_F he (64 * b) (fun w => bi_I (R w)) (i + 1)) ?_ ⟨h3, ?_⟩⟩)
    · rw [h1.2, h2, hR i hi, bi_v]
      exact fa_s he (64 * b) (fun w => bi_I (R w)) i
    · rw [h2, hR i hi]
      cases hC : R i
      · have e1 : pm_cn R (i + 1) = pm_cn R i := if_neg (by rw [hC]; decide)
        rw [e1] at ih'
        exact br_t rfl (nm_r (nI_1 i) ih')
      · have e1 : pm_cn R (i + 1) = pm_cn R i + 1 := if_pos hC
        rw [e1] at ih'
        exact br_f (by decide) (nm_r (nI_1 _) (nm_r (nI_1 i) ih')))
  obtain ⟨m, hm⟩ := key
  refine ⟨m, ?_⟩
  have hm' : wY_store_4 post (nI b) (nI n) (nI (2 ^ n)) hI m (nI (pm_cn R 0)) (nI 0) (fa_F he (64 * b) (fun w => bi_I (R w)) 0) fm re fa := hm
  rw [fa_0] at hm'
  exact hm'
theorem yw_least {post : Int32 → Prop} {F : Nat → Bool} {D : Nat → Nat} {t : Bool} (hn : n < 7) (hh : h < 8) (hF : ∀ w, w < 2 ^ n → fm (64 * h + w) = bi_I (F w)) (hD : ∀ w, w < 2 ^ n → fa w = nI (D w)) (hD2 : ∀ w, w < 2 ^ n → D w < 1000) (hp : post (nI (pm_mn (fun w => F w == t) D 1000 (2 ^ n)))) : wpY_leastFar post (nI n, nI (2 ^ n), nI (h + 1), he, fm, re, fa) (bi_I t) := by
  have hW := bb_W n hn
  refine xl_up (fun m i => wY_leastFar_6 post (bi_I t) (nI n) (nI (2 ^ n)) (nI (h + 1)) he fm re fa m (nI (pm_mn (fun w => F w == t) D 1000 i)) (nI i)) (2 ^ n) (fun m => br_t (nI_le (Nat.le_refl _) (xw_W31 hn)) hp) (fun m i hi ih => ?_)
  refine br_f (nI_ge hi (xw_W31 hn)) (br_f (nI_ge (b := 64) (by omega) (by decide)) (yw_top hh (by omega) (hF i hi) ?_))
  have ih' : wY_leastFar_6 post (bi_I t) (nI n) (nI (2 ^ n)) (nI (h + 1)) he fm re fa m (nI (pm_mn (fun w => F w == t) D 1000 (i + 1))) (nI (i + 1)) := ih
  clear ih
  rw [pm_mn_s] at ih'
  have hz := pm_mn_z (fun w => F w == t) D 1000 i
  have hd := hD2 i hi
  have h2 : (nI i).toNatClampNeg = i := nI_clamp (by omega)
  have h3 : vp_in (nI i) 64 := vp_in_nI (by omega) (by decide)
  by_cases hC : F i = t
  · rw [if_pos (by rw [hC]; exact beq_self_eq_true t)] at ih'
    refine br_t ((bi_eq _ _).mpr hC) ⟨h3, ?_⟩
    rw [h2, hD i hi]
    by_cases hlt : D i < pm_mn (fun w => F w == t) D 1000 i
    · rw [if_pos hlt] at ih'
      exact br_f (nI_ge hlt (by omega)) ⟨h3, nm_r rfl (nm_r (nI_1 i) ih')⟩
    · rw [if_neg hlt] at ih'
      exact br_t (nI_le (by omega) (by omega)) (nm_r (nI_1 i) ih')
  · rw [if_neg (fun z => hC (eq_of_beq z))] at ih'
    exact br_f (fun z => hC ((bi_eq _ _).mp z)) (nm_r (nI_1 i) ih')
end
