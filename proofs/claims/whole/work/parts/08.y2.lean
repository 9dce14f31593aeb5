/-! the reference's calls that change something -/
theorem fa_keep {a : Nat → Int32} {o : Nat} {f : Nat → Int32} {i : Nat} (h : a (o + i) = f i) : fa_F a o f (i + 1) = fa_F a o f i := funext (fun j => by
  unfold fa_F
  by_cases e : j = o + i
  · subst e
    rw [if_pos (by omega), if_neg (by omega), h]
    exact congrArg f (by omega)
  · by_cases h2 : o ≤ j ∧ j < o + i
    · rw [if_pos h2, if_pos (by omega)]
    · rw [if_neg h2, if_neg (by omega)])
theorem yr_up {a : Nat → Int32} {R : Nat → Bool} {i : Nat} {c : Bool} (hc : R i = c) (hi : i < 64) : upd (fa_F a 0 (fun w => bi_I (R w)) i) (nI i).toNatClampNeg (vp_nar .boolean (bi_I c)) = fa_F a 0 (fun w => bi_I (R w)) (i + 1) := by
  rw [nI_clamp (by omega), bi_v, ← fa_s, hc, Nat.zero_add]
theorem yd_up {a : Nat → Int32} {D : Nat → Nat} {i : Nat} (hi : i < 64) : upd (fa_F a 0 (fun w => nI (D w)) i) (nI i).toNatClampNeg (nI (D i)) = fa_F a 0 (fun w => nI (D w)) (i + 1) := by
  rw [nI_clamp (by omega), ← fa_s, Nat.zero_add]
theorem yf_up {a : Nat → Int32} {R : Nat → Bool} {o i : Nat} {c : Bool} {x : Int32} (hx : x = nI (o + i)) (ho : o + i < 512) (hc : R i = c) : upd (fa_F a o (fun w => bi_I (R w)) i) x.toNatClampNeg (vp_nar .boolean (bi_I c)) = fa_F a o (fun w => bi_I (R w)) (i + 1) := by
  rw [hx, nI_clamp (by omega), bi_v, ← fa_s, hc]
theorem y0_in {f : Nat → Int32} {a : Nat → Int32} {m w : Nat} (h : w < m) : fa_F a 0 f m w = f w := by
  have e := fa_in (a := a) (o := 0) (f := f) h
  rw [Nat.zero_add] at e
  exact e
theorem yf_ix {h i : Nat} (hh : h < 8) : ((64 * (nI h &&& 7)) + nI i) = nI (64 * h + i) := by rw [(bi_top h hh).2, bi_64]
section
variable {n h : Nat} {hI : Int32} {he fm re fa : Nat → Int32}
theorem yp_atom {post : Int32 → SY → Prop} {v : Nat} (hn : n < 7) (hh : h < 8) (hv : v < n) (hp : post (nI (h + 1)) (nI n, nI (2 ^ n), nI (h + 1), he, fa_F fm (64 * h) (fun w => bi_I (Nat.testBit w v)) (2 ^ n), re, fa)) : ∃ m, wY_atom_24 post (nI v) (nI n) (nI (2 ^ n)) (nI h) m 0 he fm re fa := by
  have hW := bb_W n hn
  have key := xl_up (fun m i => wY_atom_24 post (nI v) (nI n) (nI (2 ^ n)) (nI h) m (nI i) he (fa_F fm (64 * h) (fun w => bi_I (Nat.testBit w v)) i) re fa) (2 ^ n) (fun m => br_t (nI_le (Nat.le_refl _) (xw_W31 hn)) (show wY_atom_76 _ _ _ _ _ _ _ _ from nm_r (nI_1 h) hp)) (fun m i hi ih => by
    refine br_f (nI_ge hi (xw_W31 hn)) (br_f (nI_ge (b := 64) (by omega) (by decide)) (yw_val (by omega) (by omega) ?_))
    have hin : vp_in ((64 * (nI h &&& 7)) + nI i) 512 := by rw [yf_ix hh]; exact vp_in_nI (by omega) (by decide)
    cases hc : Nat.testBit i v
    · exact br_f (by decide) ⟨hin, nm_r (yf_up (c := false) (yf_ix hh) (by omega) hc) (nm_r (nI_1 i) ih)⟩
    · exact br_t rfl ⟨hin, nm_r (yf_up (c := true) (yf_ix hh) (by omega) hc) (nm_r (nI_1 i) ih)⟩)
  obtain ⟨m, hm⟩ := key
  refine ⟨m, ?_⟩
  have hm' : wY_atom_24 post (nI v) (nI n) (nI (2 ^ n)) (nI h) m (nI 0) he (fa_F fm (64 * h) (fun w => bi_I (Nat.testBit w v)) 0) re fa := hm
  rw [fa_0] at hm'
  exact hm'
theorem yp_quote {post : Int32 → SY → Prop} {B : Nat → Bool} {b : Nat} (hn : n < 7) (hh : h < 8) (hb : b < 3) (hB : ∀ w, w < 2 ^ n → he (64 * b + w) = bi_I (B w)) (hp : post (nI (h + 1)) (nI n, nI (2 ^ n), nI (h + 1), he, fa_F fm (64 * h) (fun w => bi_I (B w)) (2 ^ n), re, fa)) : ∃ m, wY_quote_24 post (nI b) (nI n) (nI (2 ^ n)) (nI h) m 0 he fm re fa := by
  have hW := bb_W n hn
  have key := xl_up (fun m i => wY_quote_24 post (nI b) (nI n) (nI (2 ^ n)) (nI h) m (nI i) he (fa_F fm (64 * h) (fun w => bi_I (B w)) i) re fa) (2 ^ n) (fun m => br_t (nI_le (Nat.le_refl _) (xw_W31 hn)) (show wY_quote_67 _ _ _ _ _ _ _ _ from nm_r (nI_1 h) hp)) (fun m i hi ih => by
    refine br_f (nI_ge hi (xw_W31 hn)) (br_f (nI_ge (b := 64) (by omega) (by decide)) (yw_in hb (by omega) (hB i hi) ?_))
    have hin : vp_in ((64 * (nI h &&& 7)) + nI i) 512 := by rw [yf_ix hh]; exact vp_in_nI (by omega) (by decide)
    exact ⟨hin, nm_r (yf_up (c := B i) (yf_ix hh) (by omega) rfl) (nm_r (nI_1 i) ih)⟩)
  obtain ⟨m, hm⟩ := key
  refine ⟨m, ?_⟩
  have hm' : wY_quote_24 post (nI b) (nI n) (nI (2 ^ n)) (nI h) m (nI 0) he (fa_F fm (64 * h) (fun w => bi_I (B w)) 0) re fa := hm
  rw [fa_0] at hm'
  exact hm'
theorem yp_not {post : Int32 → SY → Prop} {F : Nat → Bool} (hn : n < 7) (hh : h < 8) (hF : ∀ w, w < 2 ^ n → fm (64 * h + w) = bi_I (F w)) (hp : post (nI (h + 1)) (nI n, nI (2 ^ n), nI (h + 1), he, fa_F fm (64 * h) (fun w => bi_I (!F w)) (2 ^ n), re, fa)) : ∃ m, wY_connect_49 post (nI (64 * h)) (nI n) (nI (2 ^ n)) (nI (h + 1)) m 0 he fm re fa := by
  have hW := bb_W n hn
  have key := xl_up (fun m i => wY_connect_49 post (nI (64 * h)) (nI n) (nI (2 ^ n)) (nI (h + 1)) m (nI i) he (fa_F fm (64 * h) (fun w => bi_I (!F w)) i) re fa) (2 ^ n) (fun m => br_t (nI_le (Nat.le_refl _) (xw_W31 hn)) hp) (fun m i hi ih => by
    have e1 : nI (64 * h) + nI i = nI (64 * h + i) := nI_add _ _
    have hin : vp_in (nI (64 * h) + nI i) 512 := by rw [e1]; exact vp_in_nI (by omega) (by decide)
    have hrd : fa_F fm (64 * h) (fun w => bi_I (!F w)) i (nI (64 * h) + nI i).toNatClampNeg = bi_I (F i) := by
      rw [e1, nI_clamp (by omega), fa_out (by omega), hF i hi]
    refine br_f (nI_ge hi (xw_W31 hn)) (br_f (nI_ge (b := 64) (by omega) (by decide)) ⟨hin, ?_⟩)
    rw [hrd]
    cases hc : F i
    · exact br_t rfl ⟨hin, nm_r (yf_up (c := true) e1 (by omega) (by rw [hc]; rfl)) (nm_r (nI_1 i) ih)⟩
    · exact br_f (by decide) ⟨hin, nm_r (yf_up (c := false) e1 (by omega) (by rw [hc]; rfl)) (nm_r (nI_1 i) ih)⟩)
  obtain ⟨m, hm⟩ := key
  refine ⟨m, ?_⟩
  have hm' : wY_connect_49 post (nI (64 * h)) (nI n) (nI (2 ^ n)) (nI (h + 1)) m (nI 0) he (fa_F fm (64 * h) (fun w => bi_I (!F w)) 0) re fa := hm
  rw [fa_0] at hm'
  exact hm'
def jn_j (k : Nat) (a b : Bool) : Bool := if k = 1 then a && b else if k = 2 then a || b else if k = 3 then a ^^ b else (!a || b)
theorem jn_y {post : Int32 → Prop} {u : SY} {k : Nat} {a b : Bool} (h1 : 1 ≤ k) (h4 : k ≤ 4) (hp : post (bi_I (jn_j k a b))) : wpY_joined post u (nI k) (bi_I a) (bi_I b) := by
  obtain ⟨q1, q2, q3, q4, q5, q6, q7⟩ := u
  have hk : k = 1 ∨ k = 2 ∨ k = 3 ∨ k = 4 := by omega
  rcases hk with rfl | rfl | rfl | rfl
  · refine br_t (by decide) ?_
    cases a
    · exact br_t rfl hp
    · refine br_f (by decide) ?_
      cases b
      · exact br_t rfl hp
      · exact br_f (by decide) hp
  · refine br_f (by decide) (br_t (by decide) ?_)
    cases a
    · refine br_t rfl ?_
      cases b
      · exact br_t rfl hp
      · exact br_f (by decide) hp
    · exact br_f (by decide) hp
  · refine br_f (by decide) (br_f (by decide) (br_t (by decide) ?_))
    cases a <;> cases b
    · exact br_t rfl hp
    · exact br_f (by decide) hp
    · exact br_f (by decide) hp
    · exact br_t rfl hp
  · refine br_f (by decide) (br_f (by decide) (br_f (by decide) ?_))
    cases a
    · exact br_t rfl hp
    · refine br_f (by decide) ?_
      cases b
      · exact br_t rfl hp
      · exact br_f (by decide) hp
theorem yp_join {post : Int32 → SY → Prop} {F G : Nat → Bool} {k : Nat} (hn : n < 7) (hh : h < 7) (h1 : 1 ≤ k) (h4 : k ≤ 4) (hF : ∀ w, w < 2 ^ n → fm (64 * h + w) = bi_I (F w)) (hG : ∀ w, w < 2 ^ n → fm (64 * (h + 1) + w) = bi_I (G w)) (hp : post (nI (h + 1)) (nI n, nI (2 ^ n), nI (h + 1), he, fa_F fm (64 * h) (fun w => bi_I (jn_j k (F w) (G w))) (2 ^ n), re, fa)) : ∃ m, wY_connect_114 post (nI k) (nI (64 * (h + 1))) (nI (64 * h)) (nI n) (nI (2 ^ n)) (nI (h + 2)) m 0 he fm re fa := by
  have hW := bb_W n hn
  have key := xl_up (fun m i => wY_connect_114 post (nI k) (nI (64 * (h + 1))) (nI (64 * h)) (nI n) (nI (2 ^ n)) (nI (h + 2)) m (nI i) he (fa_F fm (64 * h) (fun w => bi_I (jn_j k (F w) (G w))) i) re fa) (2 ^ n) (fun m => br_t (nI_le (Nat.le_refl _) (xw_W31 hn)) (show wY_connect_168 _ _ _ _ _ _ _ _ from nm_r (nI_pred (h + 1)) hp)) (fun m i hi ih => by
    have e1 : nI (64 * h) + nI i = nI (64 * h + i) := nI_add _ _
    have e2 : nI (64 * (h + 1)) + nI i = nI (64 * (h + 1) + i) := nI_add _ _
    have hin : vp_in (nI (64 * h) + nI i) 512 := by rw [e1]; exact vp_in_nI (by omega) (by decide)
    have hin2 : vp_in (nI (64 * (h + 1)) + nI i) 512 := by rw [e2]; exact vp_in_nI (by omega) (by decide)
    have hrd : fa_F fm (64 * h) (fun w => bi_I (jn_j k (F w) (G w))) i (nI (64 * h) + nI i).toNatClampNeg = bi_I (F i) := by
      rw [e1, nI_clamp (by omega), fa_out (by omega), hF i hi]
    have hrd2 : fa_F fm (64 * h) (fun w => bi_I (jn_j k (F w) (G w))) i (nI (64 * (h + 1)) + nI i).toNatClampNeg = bi_I (G i) := by
      rw [e2, nI_clamp (by omega), fa_out (by omega), hG i hi]
    refine br_f (nI_ge hi (xw_W31 hn)) (br_f (nI_ge (b := 64) (by omega) (by decide)) ⟨hin, hin2, ?_⟩)
    rw [hrd, hrd2]
    exact jn_y h1 h4 ⟨hin, nm_r (yf_up (c := jn_j k (F i) (G i)) e1 (by omega) rfl) (nm_r (nI_1 i) ih)⟩)
  obtain ⟨m, hm⟩ := key
  refine ⟨m, ?_⟩
  have hm' : wY_connect_114 post (nI k) (nI (64 * (h + 1))) (nI (64 * h)) (nI n) (nI (2 ^ n)) (nI (h + 2)) m (nI 0) he (fa_F fm (64 * h) (fun w => bi_I (jn_j k (F w) (G w))) 0) re fa := hm
  rw [fa_0] at hm'
  exact hm'
theorem yp_expand {post : Int32 → SY → Prop} {B F : Nat → Bool} {b : Nat} (hn : n < 7) (hh : h < 8) (hb : b < 3) (hB : ∀ w, w < 2 ^ n → he (64 * b + w) = bi_I (B w)) (hF : ∀ w, w < 2 ^ n → fm (64 * h + w) = bi_I (F w)) (hp : ∀ re', post (nI (pm_cn (fun w => B w && F w) (2 ^ n))) (nI n, nI (2 ^ n), nI h, fa_F he (64 * b) (fun w => bi_I (B w && F w)) (2 ^ n), fm, re', fa)) : ∃ m, wY_expand_22 post (nI b) (nI n) (nI (2 ^ n)) (nI (h + 1)) m 0 he fm re fa := by
  have hW := bb_W n hn
  have key := xl_up (fun m i => wY_expand_22 post (nI b) (nI n) (nI (2 ^ n)) (nI (h + 1)) m (nI i) he fm (fa_F re 0 (fun w => bi_I (B w && F w)) i) fa) (2 ^ n) (fun m => br_t (nI_le (Nat.le_refl _) (xw_W31 hn)) (show wY_expand_70 _ _ _ _ _ _ _ _ _ from nm_r (nI_pred h) (yw_store hn hb (R := fun w => B w && F w) (fun w hw => y0_in hw) (hp _)))) (fun m i hi ih => by
    refine br_f (nI_ge hi (xw_W31 hn)) (br_f (nI_ge (b := 64) (by omega) (by decide)) (yw_in hb (by omega) (hB i hi) ?_))
    have hin : vp_in (nI i) 64 := vp_in_nI (by omega) (by decide)
    cases hc : B i
    · exact br_t rfl ⟨hin, nm_r (yr_up (R := fun w => B w && F w) (c := false) (by show (B i && F i) = false; rw [hc]; rfl) (by omega)) (nm_r (nI_1 i) ih)⟩
    · refine br_f (by decide) (yw_top hh (by omega) (hF i hi) ?_)
      cases hc2 : F i
      · exact br_t rfl ⟨hin, nm_r (yr_up (R := fun w => B w && F w) (c := false) (by show (B i && F i) = false; rw [hc, hc2]; rfl) (by omega)) (nm_r (nI_1 i) ih)⟩
      · exact br_f (by decide) ⟨hin, nm_r (yr_up (R := fun w => B w && F w) (c := true) (by show (B i && F i) = true; rw [hc, hc2]; rfl) (by omega)) (nm_r (nI_1 i) ih)⟩)
  obtain ⟨m, hm⟩ := key
  refine ⟨m, ?_⟩
  have hm' : wY_expand_22 post (nI b) (nI n) (nI (2 ^ n)) (nI (h + 1)) m (nI 0) he fm (fa_F re 0 (fun w => bi_I (B w && F w)) 0) fa := hm
  rw [fa_0] at hm'
  exact hm'
end
