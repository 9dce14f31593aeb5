/-! the relation: the reference's sets of worlds are the bits of the class's longs -/
def rl_R (n h : Nat) (B F : Nat → Nat → Bool) (be fo on : Nat → Int64) (he fm : Nat → Int32) : Prop :=
  (2 ≤ n ∧ n < 7 ∧ h ≤ 8) ∧ (∀ b, b < 3 → be b = bb_L (B b) (2 ^ n)) ∧ (∀ j, j < h → fo j = bb_L (F j) (2 ^ n)) ∧ (∀ v, v < n → on v = bb_L (fun w => Nat.testBit w v) (2 ^ n)) ∧ (∀ b, b < 3 → ∀ w, w < 2 ^ n → he (64 * b + w) = bi_I (B b w)) ∧ (∀ j, j < h → ∀ w, w < 2 ^ n → fm (64 * j + w) = bi_I (F j w))
/-- the relation at the head of a turn -/
def i_Rel (k : Nat) (u : SX) (v : SY) : Prop := ∃ (n h : Nat) (B F : Nat → Nat → Bool) (be fo on : Nat → Int64) (he fm re fa : Nat → Int32), rl_R n h B F be fo on he fm ∧ u = (nI n, nI (2 ^ n), bb_L (fun _ => true) (2 ^ n), nI h, be, fo, on) ∧ v = (nI n, nI (2 ^ n), nI h, he, fm, re, fa)
theorem i_up {k : Nat} {u : SX} {v : SY} (h : i_Rel k u v) : i_Rel (k + 4) u v := h
section
variable {n h k : Nat} {B F : Nat → Nat → Bool} {be fo on : Nat → Int64} {he fm re fa : Nat → Int32}
theorem rl_mk (I : rl_R n h B F be fo on he fm) : i_Rel k (nI n, nI (2 ^ n), bb_L (fun _ => true) (2 ^ n), nI h, be, fo, on) (nI n, nI (2 ^ n), nI h, he, fm, re, fa) := ⟨n, h, B, F, be, fo, on, he, fm, re, fa, I, rfl, rfl⟩
theorem rl_pop (I : rl_R n (h + 1) B F be fo on he fm) : rl_R n h B F be fo on he fm := by
  obtain ⟨⟨h2, h7, h8⟩, hbe, hfo, hon, hhe, hfm⟩ := I
  exact ⟨⟨h2, h7, by omega⟩, hbe, fun j hj => hfo j (by omega), hon, hhe, fun j hj => hfm j (by omega)⟩
theorem rl_set {b : Nat} {R : Nat → Bool} (I : rl_R n h B F be fo on he fm) (hb : b < 3) : rl_R n h (fun b' => if b' = b then R else B b') F (vp_updL be b (bb_L R (2 ^ n))) fo on (fa_F he (64 * b) (fun w => bi_I (R w)) (2 ^ n)) fm := by
  obtain ⟨⟨h2, h7, h8⟩, hbe, hfo, hon, hhe, hfm⟩ := I
  have hW := bb_W n h7
  refine ⟨⟨h2, h7, h8⟩, fun b' hb' => ?_, hfo, hon, fun b' hb' w hw => ?_, hfm⟩
  · show vp_updL be b (bb_L R (2 ^ n)) b' = bb_L (if b' = b then R else B b') (2 ^ n)
    by_cases e : b' = b
    · subst e; rw [if_pos rfl, pk_uLs]
    · rw [if_neg e, pk_uLn e]; exact hbe b' hb'
  · show fa_F he (64 * b) (fun w => bi_I (R w)) (2 ^ n) (64 * b' + w) = bi_I ((if b' = b then R else B b') w)
    by_cases e : b' = b
    · subst e; rw [if_pos rfl]; exact fa_in hw
    · rw [if_neg e, fa_out (by omega)]; exact hhe b' hb' w hw
theorem rl_push {R : Nat → Bool} (I : rl_R n h B F be fo on he fm) (hh : h < 8) : rl_R n (h + 1) B (fun j => if j = h then R else F j) be (vp_updL fo h (bb_L R (2 ^ n))) on he (fa_F fm (64 * h) (fun w => bi_I (R w)) (2 ^ n)) := by
  obtain ⟨⟨h2, h7, h8⟩, hbe, hfo, hon, hhe, hfm⟩ := I
  have hW := bb_W n h7
  refine ⟨⟨h2, h7, by omega⟩, hbe, fun j hj => ?_, hon, hhe, fun j hj w hw => ?_⟩
  · show vp_updL fo h (bb_L R (2 ^ n)) j = bb_L (if j = h then R else F j) (2 ^ n)
    by_cases e : j = h
    · subst e; rw [if_pos rfl, pk_uLs]
    · rw [if_neg e, pk_uLn e]; exact hfo j (by omega)
  · show fa_F fm (64 * h) (fun w => bi_I (R w)) (2 ^ n) (64 * j + w) = bi_I ((if j = h then R else F j) w)
    by_cases e : j = h
    · subst e; rw [if_pos rfl]; exact fa_in hw
    · rw [if_neg e, fa_out (by omega)]; exact hfm j (by omega) w hw
/-! what the two sides leave is the same set -/
theorem rl_beq (b : Bool) : (b == true) = b := by cases b <;> rfl
theorem rl_bne (b : Bool) : (b == false) = !b := by cases b <;> rfl
theorem rl_rev {A G : Nat → Bool} (hn : n < 7) : bb_L (pm_nr G (fun w => pm_ds n A w + pm_ds n A w) (2 * (n + 1)) (2 ^ n)) (2 ^ n) = bb_L (fun w => G w && decide (pm_ds n A w = pm_mn (fun w => G w == true) (fun w => pm_ds n A w) 1000 (2 ^ n))) (2 ^ n) := bb_Lc (fun w hw => by
  show _ = (G w && decide (pm_ds n A w = pm_mn (fun w => G w == true) (fun w => pm_ds n A w) 1000 (2 ^ n)))
  rw [pm_mn_c (C := fun w => G w == true) (C' := G) (D' := fun w => pm_ds n A w) (fun i _ => rl_beq (G i)) (fun _ _ => rfl)]
  exact pm_near (fun i _ => by have := pm_ds_z n A i; omega) (fun i _ => by have := pm_ds_z n A i; omega) (fun i j _ _ => by omega) hw)
theorem rl_mrg {A C G : Nat → Bool} (hn : n < 7) : bb_L (pm_nr G (fun w => pm_ds n A w + pm_ds n C w) (2 * (n + 1)) (2 ^ n)) (2 ^ n) = bb_L (fun w => G w && decide (pm_ds n A w + pm_ds n C w = pm_mn (fun w => G w == true) (fun w => pm_ds n A w + pm_ds n C w) 1000 (2 ^ n))) (2 ^ n) := bb_Lc (fun w hw => by
  show _ = (G w && decide (pm_ds n A w + pm_ds n C w = pm_mn (fun w => G w == true) (fun w => pm_ds n A w + pm_ds n C w) 1000 (2 ^ n)))
  rw [pm_mn_c (C := fun w => G w == true) (C' := G) (D' := fun w => pm_ds n A w + pm_ds n C w) (fun i _ => rl_beq (G i)) (fun _ _ => rfl)]
  exact pm_near (E := fun w => pm_ds n A w + pm_ds n C w) (fun i _ => by have h1 := pm_ds_z n A i; have h2 := pm_ds_z n C i; omega) (fun i _ => by have h1 := pm_ds_z n A i; have h2 := pm_ds_z n C i; show pm_ds n A i + pm_ds n C i ≤ 1000; omega) (fun i j _ _ => Iff.rfl) hw)
theorem rl_giv {A G : Nat → Bool} (hn : n < 7) : bb_L (pm_nr (fun w => true && !G w) (fun w => pm_ds n A w + pm_ds n A w) (2 * (n + 1)) (2 ^ n)) (2 ^ n) = bb_L (fun w => !G w && decide (pm_ds n A w = pm_mn (fun w => G w == false) (fun w => pm_ds n A w) 1000 (2 ^ n))) (2 ^ n) := bb_Lc (fun w hw => by
  show _ = (!G w && decide (pm_ds n A w = pm_mn (fun w => G w == false) (fun w => pm_ds n A w) 1000 (2 ^ n)))
  rw [pm_mn_c (C := fun w => G w == false) (C' := fun w => true && !G w) (D' := fun w => pm_ds n A w) (fun i _ => rl_bne (G i)) (fun _ _ => rfl)]
  exact pm_near (fun i _ => by have := pm_ds_z n A i; omega) (fun i _ => by have := pm_ds_z n A i; omega) (fun i j _ _ => by omega) hw)
end
