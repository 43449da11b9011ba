/-! ===== budgets, answers, the script, the layout ===== -/
theorem am_bd {Y : am_Y} {mi mc ms mc' ms' pc : Nat} {L : am_L} {S : List Value} {m : am_M} {Q : Option Value → am_M → Prop} (h1 : mc ≤ mc') (h2 : ms ≤ ms') (h : am_WP Y mi mc ms pc L S m Q) : am_WP Y mi mc' ms' pc L S m Q := by
  intro E p la e R s mth args below meth c Z d0 H locs cells slots ls hC hZ hd hR hS hl g1 g2
  exact h E p la e R s mth args below meth c Z d0 H locs cells slots ls hC hZ hd hR hS hl (by omega) (by omega)
/-- an int comes back where an int is told -/
theorem am_ri {Y : am_Y} {mi mc ms pc : Nat} {L : am_L} {S : List Value} {m : am_M} {Q : Option Value → am_M → Prop} (hr : am_ret mi = some .int ∨ am_ret mi = some .boolean) (h : am_WP Y mi mc ms pc L S m (fun r m1 => (∃ v, r = some (.int v)) → Q r m1)) : am_WP Y mi mc ms pc L S m Q := by
  intro E p la e R s mth args below meth c Z d0 H locs cells slots ls hC hZ hd hR hS hl g1 g2
  refine h E p la e R s mth args below meth c Z d0 H locs cells slots ls hC (fun d0 H locs cells slots r m i pc ls a1 a2 a3 a4 a5 a6 a7 a8 => hZ d0 H locs cells slots r m i pc ls a1 a2 a3 a4 a5 a6 a7 (a8 ?_)) hd hR hS hl g1 g2
  unfold am_rt at a7
  split at a7
  · rcases hr with z | z <;> rw [z] at a7 <;> exact absurd a7.2 (by simp)
  · exact ⟨_, rfl⟩
  · rcases hr with z | z <;> rw [z] at a7 <;> exact absurd a7.2 (by simp)
  · obtain ⟨n, hn⟩ := a7.2
    rcases hr with z | z <;> rw [z] at hn <;> exact absurd hn (by simp)
  · obtain ⟨n, hn⟩ := a7.2
    rcases hr with z | z <;> rw [z] at hn <;> exact absurd hn (by simp)
  · exact a7.elim
/-- the script stays as it is -/
def SC (L : Nat) (xs : Nat → Int32) (m : am_M) : Prop := ∃ n, am_k YL m 2 = (20, n) ∧ Int32.ofNat n = iI (L : Int) ∧ L ≤ n ∧ ∀ j, j < L → m.1 2 j = xs j
theorem SC_le {L n : Nat} (hL : L ≤ 4608) (h : Int32.ofNat n = iI (L : Int)) : L ≤ n := by
  rcases Nat.lt_or_ge n L with z | z
  · rw [iI_ofNat] at h
    have := (iI_eq (a := (n : Int)) (b := (L : Int)) (by omega) (by omega) (by omega) (by omega)).mp h
    omega
  · exact z
theorem am_ks {Ls : Nat} {xs : Nat → Int32} (hL : Ls ≤ 4608) {mi mc ms pc : Nat} {L : am_L} {S : List Value} {m : am_M} {Q : Option Value → am_M → Prop} (hs : SC Ls xs m) (h : am_WP YL mi mc ms pc L S m (fun r m1 => SC Ls xs m1 → Q r m1)) : am_WP YL mi mc ms pc L S m Q := by
  intro E p la e R s mth args below meth c Z d0 H locs cells slots ls hC hZ hd hR hS hl g1 g2
  refine h E p la e R s mth args below meth c Z d0 H locs cells slots ls hC (fun d1 H1 locs1 cells1 slots1 r m1 i pc1 ls1 a1 a2 a3 a4 a5 a6 a7 a8 => hZ d1 H1 locs1 cells1 slots1 r m1 i pc1 ls1 a1 a2 a3 a4 a5 a6 a7 (a8 ?_)) hd hR hS hl g1 g2
  obtain ⟨n, k1, k2, k3, k4⟩ := hs
  obtain ⟨c1, n1, b1, b2, b3, b4, b5, b6, b7, b8⟩ := hR.2.2.1.1 2 (by decide)
  obtain ⟨c2, n2, d1', d2, d3, d4, d5, d6, d7, d8⟩ := a2.2.2.1.1 2 (by decide)
  have hE : E.1 ≤ s.heap.size := hC.2.2.2.2.2.2.2.2.2
  have e1 := hS.2.1 (E.2.1 2) (by omega) (show ¬ E.1 ≤ E.2.1 2 by omega)
  have e2 := a3.2.1 (E.2.1 2) (by omega) (show ¬ E.1 ≤ E.2.1 2 by omega)
  rw [b2] at e1
  rw [d2, ← e1] at e2
  cases e2
  rw [k1] at b1
  cases b1
  have ln : Ls ≤ n2 := SC_le hL (by rw [← d6, b6, k2])
  refine ⟨n2, d1', by rw [← d6, b6, k2], ln, fun j hj => ?_⟩
  have x1 := b7 j (by omega)
  have x2 := d7 j (by omega)
  rw [x1] at x2
  rw [← Value.int.inj (Option.some.inj x2)]
  exact k4 j hj
theorem am_Rel_cg {E : am_E} {Y Y' : am_Y} {m m' : am_M} {U : State} {H : Heap} (e1 : m'.1 = m.1) (e2 : m'.2.1 = m.2.1) (e3 : ∀ a j, am_gR Y' m' a j = am_gR Y m a j) (e4 : ∀ a, am_k Y' m' a = am_k Y m a) (e5 : am_n m' = am_n m) (h : am_Rel E Y m U H) : am_Rel E Y' m' U H := by
  have ef : am_fv E Y' m' = am_fv E Y m := by
    funext ci a k
    unfold am_fv
    rw [e3, e1]
  have ec : ∀ a, am_ce E Y' m' a = am_ce E Y m a := fun a => by
    have ea : am_ar E Y' m' (am_k Y m a).1 a = am_ar E Y m (am_k Y m a).1 a := by
      unfold am_ar
      rw [e1, e2, show (fun j => (am_gR Y' m' a j).map (am_ad E)) = fun j => (am_gR Y m a j).map (am_ad E) from funext fun j => by rw [e3]]
    unfold am_ce am_fs
    rw [e4, ef, ea]
  obtain ⟨h1, h2, ⟨h3, h4, h5⟩, h6⟩ := h
  refine ⟨by rw [e5]; exact h1, fun a x y => by rw [ec]; exact h2 a x (by rw [← e5]; exact y), ⟨fun a ha => ?_, h4, h5⟩, fun a ha => by rw [e4]; exact h6 a (by rw [← e5]; exact ha)⟩
  rw [e4, e1]
  exact h3 a ha
/-- a memory that holds its layout itself -/
def am_ab (m : am_M) : am_M := (m.1, m.2.1, am_gR YL m, am_k YL m, am_n m)
theorem am_chg {mi mc ms pc : Nat} {L : am_L} {S : List Value} {m : am_M} {Q : Option Value → am_M → Prop} (hR : ∀ a j, am_gR YL m a j = m.2.2.1 a j) (hK : ∀ a, am_k YL m a = m.2.2.2.1 a) (h : am_WP YL mi mc ms pc L S m (fun r m2 => Q r (am_ab m2))) : am_WP am_Y0 mi mc ms pc L S m Q := by
  intro E p la e R s mth args below meth c Z d0 H locs cells slots ls hC hZ hd hR' hS hl g1 g2
  refine h E p la e R s mth args below meth c Z d0 H locs cells slots ls hC (fun d1 H1 locs1 cells1 slots1 r m1 i pc1 ls1 a1 a2 a3 a4 a5 a6 a7 a8 => hZ d1 H1 locs1 cells1 slots1 r (am_ab m1) i pc1 ls1 a1 ?_ a3 a4 a5 a6 a7 a8) hd (am_Rel_cg (Y := am_Y0) (m := m) rfl rfl (fun a j => hR a j) (fun a => hK a) rfl hR') hS hl g1 g2
  exact am_Rel_cg (Y := YL) (m := m1) rfl rfl (fun a j => rfl) (fun a => rfl) rfl a2
theorem am_ab_R (m : am_M) (a j : Nat) : am_gR YL (am_ab m) a j = am_gR YL m a j := by
  unfold am_ab am_gR
  dsimp only
  cases YL.1 a j <;> rfl
theorem am_ab_K (m : am_M) (a : Nat) : am_k YL (am_ab m) a = am_k YL m a := by
  unfold am_ab am_k
  dsimp only
  cases YL.2 a <;> rfl
theorem YL_R_big {j : Nat} (h : 29 ≤ j) (a : Nat) : YL_R a j = none := by
  have b : ∀ c, c < 29 → Nat.beq j c = false := fun c hc => by
    cases z : Nat.beq j c
    · rfl
    · have := Nat.eq_of_beq_eq_true z
      omega
  unfold YL_R
  simp only [show Nat.ble 20 j = true from Nat.ble_eq_true_of_le (by omega), show Nat.ble 8 j = true from Nat.ble_eq_true_of_le (by omega), cond_true, b 0 (by decide), b 1 (by decide), b 2 (by decide), b 3 (by decide), b 4 (by decide), b 5 (by decide), b 6 (by decide), b 7 (by decide), b 8 (by decide), b 9 (by decide), b 10 (by decide), b 11 (by decide), b 12 (by decide), b 13 (by decide), b 14 (by decide), b 15 (by decide), b 16 (by decide), b 17 (by decide), b 18 (by decide), b 19 (by decide), b 20 (by decide), b 21 (by decide), b 22 (by decide), b 23 (by decide), b 24 (by decide), b 25 (by decide), b 26 (by decide), b 27 (by decide), b 28 (by decide), cond_false, Bool.cond_self]
