/-! ===== using the machine ===== -/
theorem am_so {Y : am_Y} {mi mc ms pc : Nat} {L : am_L} {S : List Value} {m : am_M} {Q : Option Value → am_M → Prop} (h : am_step Y mi mc ms pc L S m (am_kW Y mi Q) (am_cW Y) Q) : am_WP Y mi mc ms pc L S m Q := am_sound am_i2f h
theorem am_mono {Y : am_Y} {mi mc ms pc : Nat} {L : am_L} {S : List Value} {m : am_M} {Q Q1 : Option Value → am_M → Prop} (h : am_WP Y mi mc ms pc L S m Q1) (hq : ∀ r m1, Q1 r m1 → Q r m1) : am_WP Y mi mc ms pc L S m Q := by
  intro E p la e R s mth args below meth c Z d0 H locs cells slots ls hC hZ hd hR hS hl h1 h2
  exact h E p la e R s mth args below meth c Z d0 H locs cells slots ls hC (fun d0 H locs cells slots r m i pc ls g1 g2 g3 g4 g5 g6 g7 g8 => hZ d0 H locs cells slots r m i pc ls g1 g2 g3 g4 g5 g6 g7 (hq r m g8)) hd hR hS hl h1 h2
def am_ww : am_L → am_L → Prop
  | [], _ => True
  | none :: r, [] => am_ww r []
  | none :: r, _ :: q => am_ww r q
  | some _ :: _, [] => False
  | some v :: r, x :: q => x = some v ∧ am_ww r q
theorem am_ww_ge : ∀ {L1 L : am_L}, am_ww L1 L → ∀ (i : Nat) (v : Value), am_ge L1 i = some v → am_ge L i = some v
  | [], _, _, i, v, h => by cases i <;> cases h
  | none :: r, [], hw, 0, v, h => by cases h
  | none :: r, [], hw, i + 1, v, h => by
    have := am_ww_ge (L1 := r) (L := []) hw i v h
    cases i <;> cases this
  | none :: r, _ :: q, hw, 0, v, h => by cases h
  | none :: r, _ :: q, hw, i + 1, v, h => am_ww_ge (L1 := r) (L := q) hw i v h
  | some u :: r, [], hw, i, v, h => hw.elim
  | some u :: r, x :: q, hw, 0, v, h => by
    cases h
    exact hw.1
  | some u :: r, x :: q, hw, i + 1, v, h => am_ww_ge (L1 := r) (L := q) hw.2 i v h
theorem am_wk {Y : am_Y} {mi mc ms pc : Nat} {L : am_L} (L1 : am_L) {S : List Value} {m : am_M} {Q : Option Value → am_M → Prop} (hw : am_ww L1 L) (h : am_WP Y mi mc ms pc L1 S m Q) : am_WP Y mi mc ms pc L S m Q := by
  intro E p la e R s mth args below meth c Z d0 H locs cells slots ls hC hZ hd hR hS hl h1 h2
  exact h E p la e R s mth args below meth c Z d0 H locs cells slots ls hC hZ hd hR hS ⟨hl.1, hl.2.1, fun i v g => hl.2.2 i v (am_ww_ge hw i v g)⟩ h1 h2
theorem am_fm {Y : am_Y} {mi mc ms pc : Nat} {L : am_L} {r : List Value} {m : am_M} {Q : Option Value → am_M → Prop} {x y : UInt32} (hc : am_code mi pc = some (.fmul, 1)) (hn : vf_n32 (FP.fmul x y)) (k : am_WP Y mi mc ms (pc + 1) L (.float (FP.fmul x y) :: r) m Q) : am_WP Y mi mc ms pc L (.float y :: .float x :: r) m Q := by
  refine am_so ?_
  unfold am_step
  rw [hc]
  exact ⟨hn, k⟩
