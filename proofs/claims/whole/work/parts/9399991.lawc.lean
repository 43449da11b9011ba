/-! ===== the law's cases ===== -/
theorem Pr.b {mi mj : Nat} {L K : am_L} {m : am_M} (h : Pr mi L mj K m) : Pb 3 10 mi L mj K m := am_bd (by decide) (by decide) h
theorem Pb.b {mi mj : Nat} {L K : am_L} {m : am_M} (h : Pb 1 5 mi L mj K m) : Pb 3 10 mi L mj K m := am_bd (by decide) (by decide) h
theorem L_call {Ls : Nat} {xs : Nat → Int32} (hL : Ls ≤ 4608) {mi mj np1 np2 c s : Nat} {L K Lc Lo : am_L} {m : am_M} {Q : Option Value → am_M → Prop} (hr : am_ret mi = some .int ∨ am_ret mi = some .boolean) (hs : SC Ls xs m) (P : Pb 3 10 mi L mj K m)
    (b1 : ∀ m1 v, SC Ls xs m1 → am_WP YL mj 0 0 0 K [] m1 (fun r2 m2 => am_WP YL 231 c s np2 Lc (am_pu r2 [.int v]) m2 Q) → am_WP YL 231 c s np1 Lc [.int v] m1 Q)
    (b2 : ∀ m2 v, SC Ls xs m2 → am_WP YL 231 c s 18 Lo [] m2 Q → am_WP YL 231 c s np2 Lc [.int v, .int v] m2 Q)
    (nx : ∀ m2, Inv m2 → SC Ls xs m2 → am_WP YL 231 c s 18 Lo [] m2 Q) : am_WP YL mi 3 10 0 L [] m (fun r1 m1 => am_WP YL 231 c s np1 Lc (am_pu r1 []) m1 Q) := by
  refine am_ks hL hs (am_ri hr (am_mono P (fun r m1 hq hv hs1 => ?_)))
  obtain ⟨v, rfl⟩ := hv
  refine b1 m1 v hs1 (am_ks hL hs1 (am_mono hq (fun r2 m2 h hs2 => ?_)))
  obtain ⟨rfl, _, hI2⟩ := h
  exact b2 m2 v hs2 (nx m2 hI2 hs2)
theorem rin {k n : Nat} (t : Nat) (h1 : k + t < n) (h2 : k + t < 10000) : vp_in (iI (k : Int) + iI (t : Int)) n := by
  rw [iI_add]
  exact (iI_in (by omega) (by omega)).mpr ⟨by omega, by omega⟩
theorem rv {Ls : Nat} {xs : Nat → Int32} {m : am_M} (k4 : ∀ j, j < Ls → m.1 2 j = xs j) {k : Nat} (t : Nat) (h1 : k + t < Ls) (h2 : k + t < 10000) : m.1 2 (iI (k : Int) + iI (t : Int)).toNatClampNeg = xs (k + t) := by
  rw [iI_add, iI_cl (by omega) (by omega), show ((k : Int) + (t : Int)).toNat = k + t by omega]
  exact k4 _ h1
theorem L_k0 {Ls : Nat} {xs : Nat → Int32} (hL : Ls ≤ 4608) {m : am_M} {Q : Option Value → am_M → Prop} {c s k : Nat} (hI : Inv m) (hs : SC Ls xs m) (hk : k + 9 ≤ Ls) (nx : ∀ m2, Inv m2 → SC Ls xs m2 → am_WP YL 231 c s 18 [some (.ref 2), some (.ref 3), some (.ref 109), some (.int (iI (k : Int) + 9))] [] m2 Q) : am_WP YL 231 (3 + c) (10 + s) 184 [some (.ref 2), some (.ref 3), some (.ref 109), some (.int (iI (k : Int)))] [] m Q := by
  obtain ⟨n, k1, k2, k3, k4⟩ := id hs
  refine L_a0 m Q c s n k1 (iI (k : Int)) ?_
  refine ⟨rin 1 (by omega) (by omega), rin 2 (by omega) (by omega), rin 3 (by omega) (by omega), rin 4 (by omega) (by omega), ?_⟩
  rw [show m.1 2 (iI (k : Int) + (1 : Int32)).toNatClampNeg = xs (k + 1) from rv k4 1 (by omega) (by omega), show m.1 2 (iI (k : Int) + (2 : Int32)).toNatClampNeg = xs (k + 2) from rv k4 2 (by omega) (by omega), show m.1 2 (iI (k : Int) + (3 : Int32)).toNatClampNeg = xs (k + 3) from rv k4 3 (by omega) (by omega), show m.1 2 (iI (k : Int) + (4 : Int32)).toNatClampNeg = xs (k + 4) from rv k4 4 (by omega) (by omega)]
  have P := (P_row hI (xs (k + 1)).toInt (xs (k + 2)).toInt (xs (k + 3)).toInt (xs (k + 4)).toInt (iI_b _) (iI_b _) (iI_b _) (iI_b _)).b
  simp only [iI_self] at P
  refine L_call (np2 := 232) hL (Or.inr rfl) hs P (fun m1 v hs1 h => ?_) (fun m2 v hs2 h => ?_) nx
  · obtain ⟨n, k1, k2, k3, k4⟩ := hs1
    refine L_b0 m1 Q c s n k1 (iI (k : Int)) v ?_
    refine ⟨rin 1 (by omega) (by omega), rin 2 (by omega) (by omega), rin 3 (by omega) (by omega), rin 4 (by omega) (by omega), ?_⟩
    rw [show m1.1 2 (iI (k : Int) + (1 : Int32)).toNatClampNeg = xs (k + 1) from rv k4 1 (by omega) (by omega), show m1.1 2 (iI (k : Int) + (2 : Int32)).toNatClampNeg = xs (k + 2) from rv k4 2 (by omega) (by omega), show m1.1 2 (iI (k : Int) + (3 : Int32)).toNatClampNeg = xs (k + 3) from rv k4 3 (by omega) (by omega), show m1.1 2 (iI (k : Int) + (4 : Int32)).toNatClampNeg = xs (k + 4) from rv k4 4 (by omega) (by omega)]
    exact h
  · obtain ⟨n, k1, _⟩ := hs2
    exact L_c0 m2 Q c s n k1 (iI (k : Int)) v v ⟨fun _ => h, fun w => absurd rfl w⟩
theorem L_k1 {Ls : Nat} {xs : Nat → Int32} (hL : Ls ≤ 4608) {m : am_M} {Q : Option Value → am_M → Prop} {c s k : Nat} (hI : Inv m) (hs : SC Ls xs m) (hk : k + 9 ≤ Ls) (nx : ∀ m2, Inv m2 → SC Ls xs m2 → am_WP YL 231 c s 18 [some (.ref 2), some (.ref 3), some (.ref 109), some (.int (iI (k : Int) + 9))] [] m2 Q) : am_WP YL 231 (3 + c) (10 + s) 237 [some (.ref 2), some (.ref 3), some (.ref 109), some (.int (iI (k : Int)))] [] m Q := by
  obtain ⟨n, k1, k2, k3, k4⟩ := id hs
  refine L_a1 m Q c s n k1 (iI (k : Int)) ?_
  refine ⟨rin 1 (by omega) (by omega), rin 2 (by omega) (by omega), rin 3 (by omega) (by omega), rin 4 (by omega) (by omega), ?_⟩
  rw [show m.1 2 (iI (k : Int) + (1 : Int32)).toNatClampNeg = xs (k + 1) from rv k4 1 (by omega) (by omega), show m.1 2 (iI (k : Int) + (2 : Int32)).toNatClampNeg = xs (k + 2) from rv k4 2 (by omega) (by omega), show m.1 2 (iI (k : Int) + (3 : Int32)).toNatClampNeg = xs (k + 3) from rv k4 3 (by omega) (by omega), show m.1 2 (iI (k : Int) + (4 : Int32)).toNatClampNeg = xs (k + 4) from rv k4 4 (by omega) (by omega)]
  have P := (P_square hI (xs (k + 1)).toInt (xs (k + 2)).toInt (xs (k + 3)).toInt (xs (k + 4)).toInt (iI_b _) (iI_b _) (iI_b _) (iI_b _)).b
  simp only [iI_self] at P
  refine L_call (np2 := 285) hL (Or.inr rfl) hs P (fun m1 v hs1 h => ?_) (fun m2 v hs2 h => ?_) nx
  · obtain ⟨n, k1, k2, k3, k4⟩ := hs1
    refine L_b1 m1 Q c s n k1 (iI (k : Int)) v ?_
    refine ⟨rin 1 (by omega) (by omega), rin 2 (by omega) (by omega), rin 3 (by omega) (by omega), rin 4 (by omega) (by omega), ?_⟩
    rw [show m1.1 2 (iI (k : Int) + (1 : Int32)).toNatClampNeg = xs (k + 1) from rv k4 1 (by omega) (by omega), show m1.1 2 (iI (k : Int) + (2 : Int32)).toNatClampNeg = xs (k + 2) from rv k4 2 (by omega) (by omega), show m1.1 2 (iI (k : Int) + (3 : Int32)).toNatClampNeg = xs (k + 3) from rv k4 3 (by omega) (by omega), show m1.1 2 (iI (k : Int) + (4 : Int32)).toNatClampNeg = xs (k + 4) from rv k4 4 (by omega) (by omega)]
    exact h
  · obtain ⟨n, k1, _⟩ := hs2
    exact L_c1 m2 Q c s n k1 (iI (k : Int)) v v ⟨fun _ => h, fun w => absurd rfl w⟩
theorem L_k2 {Ls : Nat} {xs : Nat → Int32} (hL : Ls ≤ 4608) {m : am_M} {Q : Option Value → am_M → Prop} {c s k : Nat} (hI : Inv m) (hs : SC Ls xs m) (hk : k + 9 ≤ Ls) (nx : ∀ m2, Inv m2 → SC Ls xs m2 → am_WP YL 231 c s 18 [some (.ref 2), some (.ref 3), some (.ref 109), some (.int (iI (k : Int) + 9))] [] m2 Q) : am_WP YL 231 (3 + c) (10 + s) 290 [some (.ref 2), some (.ref 3), some (.ref 109), some (.int (iI (k : Int)))] [] m Q := by
  obtain ⟨n, k1, k2, k3, k4⟩ := id hs
  refine L_a2 m Q c s n k1 (iI (k : Int)) ?_
  refine ⟨rin 1 (by omega) (by omega), rin 2 (by omega) (by omega), rin 3 (by omega) (by omega), ?_⟩
  rw [show m.1 2 (iI (k : Int) + (1 : Int32)).toNatClampNeg = xs (k + 1) from rv k4 1 (by omega) (by omega), show m.1 2 (iI (k : Int) + (2 : Int32)).toNatClampNeg = xs (k + 2) from rv k4 2 (by omega) (by omega), show m.1 2 (iI (k : Int) + (3 : Int32)).toNatClampNeg = xs (k + 3) from rv k4 3 (by omega) (by omega)]
  have P := (P_tower hI (xs (k + 1)).toInt (xs (k + 2)).toInt (xs (k + 3)).toInt (iI_b _) (iI_b _) (iI_b _)).b
  simp only [iI_self] at P
  refine L_call (np2 := 328) hL (Or.inl rfl) hs P (fun m1 v hs1 h => ?_) (fun m2 v hs2 h => ?_) nx
  · obtain ⟨n, k1, k2, k3, k4⟩ := hs1
    refine L_b2 m1 Q c s n k1 (iI (k : Int)) v ?_
    refine ⟨rin 1 (by omega) (by omega), rin 2 (by omega) (by omega), rin 3 (by omega) (by omega), ?_⟩
    rw [show m1.1 2 (iI (k : Int) + (1 : Int32)).toNatClampNeg = xs (k + 1) from rv k4 1 (by omega) (by omega), show m1.1 2 (iI (k : Int) + (2 : Int32)).toNatClampNeg = xs (k + 2) from rv k4 2 (by omega) (by omega), show m1.1 2 (iI (k : Int) + (3 : Int32)).toNatClampNeg = xs (k + 3) from rv k4 3 (by omega) (by omega)]
    exact h
  · obtain ⟨n, k1, _⟩ := hs2
    exact L_c2 m2 Q c s n k1 (iI (k : Int)) v v ⟨fun _ => h, fun w => absurd rfl w⟩
theorem L_k3 {Ls : Nat} {xs : Nat → Int32} (hL : Ls ≤ 4608) {m : am_M} {Q : Option Value → am_M → Prop} {c s k : Nat} (hI : Inv m) (hs : SC Ls xs m) (hk : k + 9 ≤ Ls) (nx : ∀ m2, Inv m2 → SC Ls xs m2 → am_WP YL 231 c s 18 [some (.ref 2), some (.ref 3), some (.ref 109), some (.int (iI (k : Int) + 9))] [] m2 Q) : am_WP YL 231 (3 + c) (10 + s) 333 [some (.ref 2), some (.ref 3), some (.ref 109), some (.int (iI (k : Int)))] [] m Q := by
  obtain ⟨n, k1, k2, k3, k4⟩ := id hs
  refine L_a3 m Q c s n k1 (iI (k : Int)) ?_
  refine ⟨rin 1 (by omega) (by omega), rin 2 (by omega) (by omega), rin 3 (by omega) (by omega), ?_⟩
  rw [show m.1 2 (iI (k : Int) + (1 : Int32)).toNatClampNeg = xs (k + 1) from rv k4 1 (by omega) (by omega), show m.1 2 (iI (k : Int) + (2 : Int32)).toNatClampNeg = xs (k + 2) from rv k4 2 (by omega) (by omega), show m.1 2 (iI (k : Int) + (3 : Int32)).toNatClampNeg = xs (k + 3) from rv k4 3 (by omega) (by omega)]
  have P := (P_see hI (xs (k + 1)).toInt (xs (k + 2)).toInt (xs (k + 3)).toInt (iI_b _) (iI_b _) (iI_b _)).b
  simp only [iI_self] at P
  refine L_call (np2 := 371) hL (Or.inl rfl) hs P (fun m1 v hs1 h => ?_) (fun m2 v hs2 h => ?_) nx
  · obtain ⟨n, k1, k2, k3, k4⟩ := hs1
    refine L_b3 m1 Q c s n k1 (iI (k : Int)) v ?_
    refine ⟨rin 1 (by omega) (by omega), rin 2 (by omega) (by omega), rin 3 (by omega) (by omega), ?_⟩
    rw [show m1.1 2 (iI (k : Int) + (1 : Int32)).toNatClampNeg = xs (k + 1) from rv k4 1 (by omega) (by omega), show m1.1 2 (iI (k : Int) + (2 : Int32)).toNatClampNeg = xs (k + 2) from rv k4 2 (by omega) (by omega), show m1.1 2 (iI (k : Int) + (3 : Int32)).toNatClampNeg = xs (k + 3) from rv k4 3 (by omega) (by omega)]
    exact h
  · obtain ⟨n, k1, _⟩ := hs2
    exact L_c3 m2 Q c s n k1 (iI (k : Int)) v v ⟨fun _ => h, fun w => absurd rfl w⟩
theorem L_k4 {Ls : Nat} {xs : Nat → Int32} (hL : Ls ≤ 4608) {m : am_M} {Q : Option Value → am_M → Prop} {c s k : Nat} (hI : Inv m) (hs : SC Ls xs m) (hk : k + 9 ≤ Ls) (nx : ∀ m2, Inv m2 → SC Ls xs m2 → am_WP YL 231 c s 18 [some (.ref 2), some (.ref 3), some (.ref 109), some (.int (iI (k : Int) + 9))] [] m2 Q) : am_WP YL 231 (3 + c) (10 + s) 376 [some (.ref 2), some (.ref 3), some (.ref 109), some (.int (iI (k : Int)))] [] m Q := by
  obtain ⟨n, k1, k2, k3, k4⟩ := id hs
  refine L_a4 m Q c s n k1 (iI (k : Int)) ?_
  refine ⟨rin 1 (by omega) (by omega), rin 2 (by omega) (by omega), rin 3 (by omega) (by omega), ?_⟩
  rw [show m.1 2 (iI (k : Int) + (1 : Int32)).toNatClampNeg = xs (k + 1) from rv k4 1 (by omega) (by omega), show m.1 2 (iI (k : Int) + (2 : Int32)).toNatClampNeg = xs (k + 2) from rv k4 2 (by omega) (by omega), show m.1 2 (iI (k : Int) + (3 : Int32)).toNatClampNeg = xs (k + 3) from rv k4 3 (by omega) (by omega)]
  have P := (P_hidden hI (xs (k + 1)).toInt (xs (k + 2)).toInt (xs (k + 3)).toInt (iI_b _) (iI_b _) (iI_b _)).b
  simp only [iI_self] at P
  refine L_call (np2 := 414) hL (Or.inl rfl) hs P (fun m1 v hs1 h => ?_) (fun m2 v hs2 h => ?_) nx
  · obtain ⟨n, k1, k2, k3, k4⟩ := hs1
    refine L_b4 m1 Q c s n k1 (iI (k : Int)) v ?_
    refine ⟨rin 1 (by omega) (by omega), rin 2 (by omega) (by omega), rin 3 (by omega) (by omega), ?_⟩
    rw [show m1.1 2 (iI (k : Int) + (1 : Int32)).toNatClampNeg = xs (k + 1) from rv k4 1 (by omega) (by omega), show m1.1 2 (iI (k : Int) + (2 : Int32)).toNatClampNeg = xs (k + 2) from rv k4 2 (by omega) (by omega), show m1.1 2 (iI (k : Int) + (3 : Int32)).toNatClampNeg = xs (k + 3) from rv k4 3 (by omega) (by omega)]
    exact h
  · obtain ⟨n, k1, _⟩ := hs2
    exact L_c4 m2 Q c s n k1 (iI (k : Int)) v v ⟨fun _ => h, fun w => absurd rfl w⟩
theorem L_k5 {Ls : Nat} {xs : Nat → Int32} (hL : Ls ≤ 4608) {m : am_M} {Q : Option Value → am_M → Prop} {c s k : Nat} (hI : Inv m) (hs : SC Ls xs m) (hk : k + 9 ≤ Ls) (nx : ∀ m2, Inv m2 → SC Ls xs m2 → am_WP YL 231 c s 18 [some (.ref 2), some (.ref 3), some (.ref 109), some (.int (iI (k : Int) + 9))] [] m2 Q) : am_WP YL 231 (3 + c) (10 + s) 419 [some (.ref 2), some (.ref 3), some (.ref 109), some (.int (iI (k : Int)))] [] m Q := by
  obtain ⟨n, k1, k2, k3, k4⟩ := id hs
  refine L_a5 m Q c s n k1 (iI (k : Int)) ?_
  refine ⟨rin 1 (by omega) (by omega), rin 2 (by omega) (by omega), rin 3 (by omega) (by omega), rin 4 (by omega) (by omega), rin 5 (by omega) (by omega), rin 6 (by omega) (by omega), rin 7 (by omega) (by omega), rin 8 (by omega) (by omega), ?_⟩
  rw [show m.1 2 (iI (k : Int) + (1 : Int32)).toNatClampNeg = xs (k + 1) from rv k4 1 (by omega) (by omega), show m.1 2 (iI (k : Int) + (2 : Int32)).toNatClampNeg = xs (k + 2) from rv k4 2 (by omega) (by omega), show m.1 2 (iI (k : Int) + (3 : Int32)).toNatClampNeg = xs (k + 3) from rv k4 3 (by omega) (by omega), show m.1 2 (iI (k : Int) + (4 : Int32)).toNatClampNeg = xs (k + 4) from rv k4 4 (by omega) (by omega), show m.1 2 (iI (k : Int) + (5 : Int32)).toNatClampNeg = xs (k + 5) from rv k4 5 (by omega) (by omega), show m.1 2 (iI (k : Int) + (6 : Int32)).toNatClampNeg = xs (k + 6) from rv k4 6 (by omega) (by omega), show m.1 2 (iI (k : Int) + (7 : Int32)).toNatClampNeg = xs (k + 7) from rv k4 7 (by omega) (by omega), show m.1 2 (iI (k : Int) + (8 : Int32)).toNatClampNeg = xs (k + 8) from rv k4 8 (by omega) (by omega)]
  have P := (P_sight hI (xs (k + 1)).toInt (xs (k + 2)).toInt (xs (k + 3)).toInt (xs (k + 4)).toInt (xs (k + 5)).toInt (xs (k + 6)).toInt (xs (k + 7)).toInt (xs (k + 8)).toInt (iI_b _) (iI_b _) (iI_b _) (iI_b _) (iI_b _) (iI_b _) (iI_b _) (iI_b _))
  simp only [iI_self] at P
  refine L_call (np2 := 513) hL (Or.inl rfl) hs P (fun m1 v hs1 h => ?_) (fun m2 v hs2 h => ?_) nx
  · obtain ⟨n, k1, k2, k3, k4⟩ := hs1
    refine L_b5 m1 Q c s n k1 (iI (k : Int)) v ?_
    refine ⟨rin 1 (by omega) (by omega), rin 2 (by omega) (by omega), rin 3 (by omega) (by omega), rin 4 (by omega) (by omega), rin 5 (by omega) (by omega), rin 6 (by omega) (by omega), rin 7 (by omega) (by omega), rin 8 (by omega) (by omega), ?_⟩
    rw [show m1.1 2 (iI (k : Int) + (1 : Int32)).toNatClampNeg = xs (k + 1) from rv k4 1 (by omega) (by omega), show m1.1 2 (iI (k : Int) + (2 : Int32)).toNatClampNeg = xs (k + 2) from rv k4 2 (by omega) (by omega), show m1.1 2 (iI (k : Int) + (3 : Int32)).toNatClampNeg = xs (k + 3) from rv k4 3 (by omega) (by omega), show m1.1 2 (iI (k : Int) + (4 : Int32)).toNatClampNeg = xs (k + 4) from rv k4 4 (by omega) (by omega), show m1.1 2 (iI (k : Int) + (5 : Int32)).toNatClampNeg = xs (k + 5) from rv k4 5 (by omega) (by omega), show m1.1 2 (iI (k : Int) + (6 : Int32)).toNatClampNeg = xs (k + 6) from rv k4 6 (by omega) (by omega), show m1.1 2 (iI (k : Int) + (7 : Int32)).toNatClampNeg = xs (k + 7) from rv k4 7 (by omega) (by omega), show m1.1 2 (iI (k : Int) + (8 : Int32)).toNatClampNeg = xs (k + 8) from rv k4 8 (by omega) (by omega)]
    exact h
  · obtain ⟨n, k1, _⟩ := hs2
    exact L_c5 m2 Q c s n k1 (iI (k : Int)) v v ⟨fun _ => h, fun w => absurd rfl w⟩
theorem L_k6 {Ls : Nat} {xs : Nat → Int32} (hL : Ls ≤ 4608) {m : am_M} {Q : Option Value → am_M → Prop} {c s k : Nat} (hI : Inv m) (hs : SC Ls xs m) (hk : k + 9 ≤ Ls) (nx : ∀ m2, Inv m2 → SC Ls xs m2 → am_WP YL 231 c s 18 [some (.ref 2), some (.ref 3), some (.ref 109), some (.int (iI (k : Int) + 9))] [] m2 Q) : am_WP YL 231 (3 + c) (10 + s) 518 [some (.ref 2), some (.ref 3), some (.ref 109), some (.int (iI (k : Int)))] [] m Q := by
  obtain ⟨n, k1, k2, k3, k4⟩ := id hs
  refine L_a6 m Q c s n k1 (iI (k : Int)) ?_
  refine ⟨rin 1 (by omega) (by omega), rin 2 (by omega) (by omega), rin 3 (by omega) (by omega), rin 4 (by omega) (by omega), rin 5 (by omega) (by omega), rin 6 (by omega) (by omega), ?_⟩
  rw [show m.1 2 (iI (k : Int) + (1 : Int32)).toNatClampNeg = xs (k + 1) from rv k4 1 (by omega) (by omega), show m.1 2 (iI (k : Int) + (2 : Int32)).toNatClampNeg = xs (k + 2) from rv k4 2 (by omega) (by omega), show m.1 2 (iI (k : Int) + (3 : Int32)).toNatClampNeg = xs (k + 3) from rv k4 3 (by omega) (by omega), show m.1 2 (iI (k : Int) + (4 : Int32)).toNatClampNeg = xs (k + 4) from rv k4 4 (by omega) (by omega), show m.1 2 (iI (k : Int) + (5 : Int32)).toNatClampNeg = xs (k + 5) from rv k4 5 (by omega) (by omega), show m.1 2 (iI (k : Int) + (6 : Int32)).toNatClampNeg = xs (k + 6) from rv k4 6 (by omega) (by omega)]
  have P := (P_report hI (xs (k + 1)).toInt (xs (k + 2)).toInt (xs (k + 3)).toInt (xs (k + 4)).toInt (xs (k + 5)).toInt (xs (k + 6)).toInt (iI_b _) (iI_b _) (iI_b _) (iI_b _) (iI_b _) (iI_b _))
  simp only [iI_self] at P
  refine L_call (np2 := 588) hL (Or.inl rfl) hs P (fun m1 v hs1 h => ?_) (fun m2 v hs2 h => ?_) nx
  · obtain ⟨n, k1, k2, k3, k4⟩ := hs1
    refine L_b6 m1 Q c s n k1 (iI (k : Int)) v ?_
    refine ⟨rin 1 (by omega) (by omega), rin 2 (by omega) (by omega), rin 3 (by omega) (by omega), rin 4 (by omega) (by omega), rin 5 (by omega) (by omega), rin 6 (by omega) (by omega), ?_⟩
    rw [show m1.1 2 (iI (k : Int) + (1 : Int32)).toNatClampNeg = xs (k + 1) from rv k4 1 (by omega) (by omega), show m1.1 2 (iI (k : Int) + (2 : Int32)).toNatClampNeg = xs (k + 2) from rv k4 2 (by omega) (by omega), show m1.1 2 (iI (k : Int) + (3 : Int32)).toNatClampNeg = xs (k + 3) from rv k4 3 (by omega) (by omega), show m1.1 2 (iI (k : Int) + (4 : Int32)).toNatClampNeg = xs (k + 4) from rv k4 4 (by omega) (by omega), show m1.1 2 (iI (k : Int) + (5 : Int32)).toNatClampNeg = xs (k + 5) from rv k4 5 (by omega) (by omega), show m1.1 2 (iI (k : Int) + (6 : Int32)).toNatClampNeg = xs (k + 6) from rv k4 6 (by omega) (by omega)]
    exact h
  · obtain ⟨n, k1, _⟩ := hs2
    exact L_c6 m2 Q c s n k1 (iI (k : Int)) v v ⟨fun _ => h, fun w => absurd rfl w⟩
theorem L_k7 {Ls : Nat} {xs : Nat → Int32} (hL : Ls ≤ 4608) {m : am_M} {Q : Option Value → am_M → Prop} {c s k : Nat} (hI : Inv m) (hs : SC Ls xs m) (hk : k + 9 ≤ Ls) (nx : ∀ m2, Inv m2 → SC Ls xs m2 → am_WP YL 231 c s 18 [some (.ref 2), some (.ref 3), some (.ref 109), some (.int (iI (k : Int) + 9))] [] m2 Q) : am_WP YL 231 (3 + c) (10 + s) 593 [some (.ref 2), some (.ref 3), some (.ref 109), some (.int (iI (k : Int)))] [] m Q := by
  obtain ⟨n, k1, k2, k3, k4⟩ := id hs
  refine L_a7 m Q c s n k1 (iI (k : Int)) ?_
  refine ⟨rin 1 (by omega) (by omega), ?_⟩
  rw [show m.1 2 (iI (k : Int) + (1 : Int32)).toNatClampNeg = xs (k + 1) from rv k4 1 (by omega) (by omega)]
  have P := (P_remark hI (xs (k + 1))).b
  refine L_call (np2 := 611) hL (Or.inl rfl) hs P (fun m1 v hs1 h => ?_) (fun m2 v hs2 h => ?_) nx
  · obtain ⟨n, k1, k2, k3, k4⟩ := hs1
    refine L_b7 m1 Q c s n k1 (iI (k : Int)) v ?_
    refine ⟨rin 1 (by omega) (by omega), ?_⟩
    rw [show m1.1 2 (iI (k : Int) + (1 : Int32)).toNatClampNeg = xs (k + 1) from rv k4 1 (by omega) (by omega)]
    exact h
  · obtain ⟨n, k1, _⟩ := hs2
    exact L_c7 m2 Q c s n k1 (iI (k : Int)) v v ⟨fun _ => h, fun w => absurd rfl w⟩
theorem L_k8 {Ls : Nat} {xs : Nat → Int32} (hL : Ls ≤ 4608) {m : am_M} {Q : Option Value → am_M → Prop} {c s k : Nat} (hI : Inv m) (hs : SC Ls xs m) (hk : k + 9 ≤ Ls) (nx : ∀ m2, Inv m2 → SC Ls xs m2 → am_WP YL 231 c s 18 [some (.ref 2), some (.ref 3), some (.ref 109), some (.int (iI (k : Int) + 9))] [] m2 Q) : am_WP YL 231 (3 + c) (10 + s) 616 [some (.ref 2), some (.ref 3), some (.ref 109), some (.int (iI (k : Int)))] [] m Q := by
  obtain ⟨n, k1, k2, k3, k4⟩ := id hs
  refine L_a8 m Q c s n k1 (iI (k : Int)) ?_
  refine ⟨rin 1 (by omega) (by omega), ?_⟩
  rw [show m.1 2 (iI (k : Int) + (1 : Int32)).toNatClampNeg = xs (k + 1) from rv k4 1 (by omega) (by omega)]
  have P := (P_clear hI (xs (k + 1)).toInt (iI_b _)).b
  simp only [iI_self] at P
  refine L_call (np2 := 634) hL (Or.inr rfl) hs P (fun m1 v hs1 h => ?_) (fun m2 v hs2 h => ?_) nx
  · obtain ⟨n, k1, k2, k3, k4⟩ := hs1
    refine L_b8 m1 Q c s n k1 (iI (k : Int)) v ?_
    refine ⟨rin 1 (by omega) (by omega), ?_⟩
    rw [show m1.1 2 (iI (k : Int) + (1 : Int32)).toNatClampNeg = xs (k + 1) from rv k4 1 (by omega) (by omega)]
    exact h
  · obtain ⟨n, k1, _⟩ := hs2
    exact L_c8 m2 Q c s n k1 (iI (k : Int)) v v ⟨fun _ => h, fun w => absurd rfl w⟩
theorem L_k9 {Ls : Nat} {xs : Nat → Int32} (hL : Ls ≤ 4608) {m : am_M} {Q : Option Value → am_M → Prop} {c s k : Nat} (hI : Inv m) (hs : SC Ls xs m) (hk : k + 9 ≤ Ls) (nx : ∀ m2, Inv m2 → SC Ls xs m2 → am_WP YL 231 c s 18 [some (.ref 2), some (.ref 3), some (.ref 109), some (.int (iI (k : Int) + 9))] [] m2 Q) : am_WP YL 231 (3 + c) (10 + s) 639 [some (.ref 2), some (.ref 3), some (.ref 109), some (.int (iI (k : Int)))] [] m Q := by
  obtain ⟨n, k1, k2, k3, k4⟩ := id hs
  refine L_a9 m Q c s n k1 (iI (k : Int)) ?_
  refine ⟨rin 1 (by omega) (by omega), rin 2 (by omega) (by omega), ?_⟩
  rw [show m.1 2 (iI (k : Int) + (1 : Int32)).toNatClampNeg = xs (k + 1) from rv k4 1 (by omega) (by omega), show m.1 2 (iI (k : Int) + (2 : Int32)).toNatClampNeg = xs (k + 2) from rv k4 2 (by omega) (by omega)]
  have P := (P_log hI (xs (k + 1)).toInt (xs (k + 2)).toInt (iI_b _) (iI_b _)).b
  simp only [iI_self] at P
  refine L_call (np2 := 667) hL (Or.inl rfl) hs P (fun m1 v hs1 h => ?_) (fun m2 v hs2 h => ?_) nx
  · obtain ⟨n, k1, k2, k3, k4⟩ := hs1
    refine L_b9 m1 Q c s n k1 (iI (k : Int)) v ?_
    refine ⟨rin 1 (by omega) (by omega), rin 2 (by omega) (by omega), ?_⟩
    rw [show m1.1 2 (iI (k : Int) + (1 : Int32)).toNatClampNeg = xs (k + 1) from rv k4 1 (by omega) (by omega), show m1.1 2 (iI (k : Int) + (2 : Int32)).toNatClampNeg = xs (k + 2) from rv k4 2 (by omega) (by omega)]
    exact h
  · obtain ⟨n, k1, _⟩ := hs2
    exact L_c9 m2 Q c s n k1 (iI (k : Int)) v v ⟨fun _ => h, fun w => absurd rfl w⟩
theorem L_k10 {Ls : Nat} {xs : Nat → Int32} (hL : Ls ≤ 4608) {m : am_M} {Q : Option Value → am_M → Prop} {c s k : Nat} (hI : Inv m) (hs : SC Ls xs m) (hk : k + 9 ≤ Ls) (nx : ∀ m2, Inv m2 → SC Ls xs m2 → am_WP YL 231 c s 18 [some (.ref 2), some (.ref 3), some (.ref 109), some (.int (iI (k : Int) + 9))] [] m2 Q) : am_WP YL 231 (3 + c) (10 + s) 672 [some (.ref 2), some (.ref 3), some (.ref 109), some (.int (iI (k : Int)))] [] m Q := by
  obtain ⟨n, k1, k2, k3, k4⟩ := id hs
  refine L_a10 m Q c s n k1 (iI (k : Int)) ?_
  refine ⟨rin 1 (by omega) (by omega), rin 2 (by omega) (by omega), ?_⟩
  rw [show m.1 2 (iI (k : Int) + (1 : Int32)).toNatClampNeg = xs (k + 1) from rv k4 1 (by omega) (by omega), show m.1 2 (iI (k : Int) + (2 : Int32)).toNatClampNeg = xs (k + 2) from rv k4 2 (by omega) (by omega)]
  have P := (P_squares hI (xs (k + 1)).toInt (xs (k + 2)).toInt (iI_b _) (iI_b _)).b
  simp only [iI_self] at P
  refine L_call (np2 := 700) hL (Or.inl rfl) hs P (fun m1 v hs1 h => ?_) (fun m2 v hs2 h => ?_) nx
  · obtain ⟨n, k1, k2, k3, k4⟩ := hs1
    refine L_b10 m1 Q c s n k1 (iI (k : Int)) v ?_
    refine ⟨rin 1 (by omega) (by omega), rin 2 (by omega) (by omega), ?_⟩
    rw [show m1.1 2 (iI (k : Int) + (1 : Int32)).toNatClampNeg = xs (k + 1) from rv k4 1 (by omega) (by omega), show m1.1 2 (iI (k : Int) + (2 : Int32)).toNatClampNeg = xs (k + 2) from rv k4 2 (by omega) (by omega)]
    exact h
  · obtain ⟨n, k1, _⟩ := hs2
    exact L_c10 m2 Q c s n k1 (iI (k : Int)) v v ⟨fun _ => h, fun w => absurd rfl w⟩
theorem L_k11 {Ls : Nat} {xs : Nat → Int32} (hL : Ls ≤ 4608) {m : am_M} {Q : Option Value → am_M → Prop} {c s k : Nat} (hI : Inv m) (hs : SC Ls xs m) (hk : k + 9 ≤ Ls) (nx : ∀ m2, Inv m2 → SC Ls xs m2 → am_WP YL 231 c s 18 [some (.ref 2), some (.ref 3), some (.ref 109), some (.int (iI (k : Int) + 9))] [] m2 Q) : am_WP YL 231 (3 + c) (10 + s) 705 [some (.ref 2), some (.ref 3), some (.ref 109), some (.int (iI (k : Int)))] [] m Q := by
  obtain ⟨n, k1, k2, k3, k4⟩ := id hs
  refine L_a11 m Q c s n k1 (iI (k : Int)) ?_
  refine ⟨rin 1 (by omega) (by omega), rin 2 (by omega) (by omega), ?_⟩
  rw [show m.1 2 (iI (k : Int) + (1 : Int32)).toNatClampNeg = xs (k + 1) from rv k4 1 (by omega) (by omega), show m.1 2 (iI (k : Int) + (2 : Int32)).toNatClampNeg = xs (k + 2) from rv k4 2 (by omega) (by omega)]
  have P := (P_join hI (xs (k + 1)).toInt (xs (k + 2)).toInt (iI_b _) (iI_b _)).b
  simp only [iI_self] at P
  refine L_call (np2 := 733) hL (Or.inr rfl) hs P (fun m1 v hs1 h => ?_) (fun m2 v hs2 h => ?_) nx
  · obtain ⟨n, k1, k2, k3, k4⟩ := hs1
    refine L_b11 m1 Q c s n k1 (iI (k : Int)) v ?_
    refine ⟨rin 1 (by omega) (by omega), rin 2 (by omega) (by omega), ?_⟩
    rw [show m1.1 2 (iI (k : Int) + (1 : Int32)).toNatClampNeg = xs (k + 1) from rv k4 1 (by omega) (by omega), show m1.1 2 (iI (k : Int) + (2 : Int32)).toNatClampNeg = xs (k + 2) from rv k4 2 (by omega) (by omega)]
    exact h
  · obtain ⟨n, k1, _⟩ := hs2
    exact L_c11 m2 Q c s n k1 (iI (k : Int)) v v ⟨fun _ => h, fun w => absurd rfl w⟩
theorem L_k12 {Ls : Nat} {xs : Nat → Int32} (hL : Ls ≤ 4608) {m : am_M} {Q : Option Value → am_M → Prop} {c s k : Nat} (hI : Inv m) (hs : SC Ls xs m) (hk : k + 9 ≤ Ls) (nx : ∀ m2, Inv m2 → SC Ls xs m2 → am_WP YL 231 c s 18 [some (.ref 2), some (.ref 3), some (.ref 109), some (.int (iI (k : Int) + 9))] [] m2 Q) : am_WP YL 231 (3 + c) (10 + s) 738 [some (.ref 2), some (.ref 3), some (.ref 109), some (.int (iI (k : Int)))] [] m Q := by
  obtain ⟨n, k1, k2, k3, k4⟩ := id hs
  refine L_a12 m Q c s n k1 (iI (k : Int)) ?_
  refine ⟨rin 1 (by omega) (by omega), ?_⟩
  rw [show m.1 2 (iI (k : Int) + (1 : Int32)).toNatClampNeg = xs (k + 1) from rv k4 1 (by omega) (by omega)]
  have P := (P_begin hI (xs (k + 1)).toInt (iI_b _)).b
  simp only [iI_self] at P
  refine L_call (np2 := 756) hL (Or.inl rfl) hs P (fun m1 v hs1 h => ?_) (fun m2 v hs2 h => ?_) nx
  · obtain ⟨n, k1, k2, k3, k4⟩ := hs1
    refine L_b12 m1 Q c s n k1 (iI (k : Int)) v ?_
    refine ⟨rin 1 (by omega) (by omega), ?_⟩
    rw [show m1.1 2 (iI (k : Int) + (1 : Int32)).toNatClampNeg = xs (k + 1) from rv k4 1 (by omega) (by omega)]
    exact h
  · obtain ⟨n, k1, _⟩ := hs2
    exact L_c12 m2 Q c s n k1 (iI (k : Int)) v v ⟨fun _ => h, fun w => absurd rfl w⟩
theorem L_k13 {Ls : Nat} {xs : Nat → Int32} (hL : Ls ≤ 4608) {m : am_M} {Q : Option Value → am_M → Prop} {c s k : Nat} (hI : Inv m) (hs : SC Ls xs m) (hk : k + 9 ≤ Ls) (nx : ∀ m2, Inv m2 → SC Ls xs m2 → am_WP YL 231 c s 18 [some (.ref 2), some (.ref 3), some (.ref 109), some (.int (iI (k : Int) + 9))] [] m2 Q) : am_WP YL 231 (3 + c) (10 + s) 761 [some (.ref 2), some (.ref 3), some (.ref 109), some (.int (iI (k : Int)))] [] m Q := by
  obtain ⟨n, k1, k2, k3, k4⟩ := id hs
  refine L_a13 m Q c s n k1 (iI (k : Int)) ?_
  refine ⟨rin 1 (by omega) (by omega), ?_⟩
  rw [show m.1 2 (iI (k : Int) + (1 : Int32)).toNatClampNeg = xs (k + 1) from rv k4 1 (by omega) (by omega)]
  have P := (P_apart hI (xs (k + 1)).toInt (iI_b _)).b
  simp only [iI_self] at P
  refine L_call (np2 := 779) hL (Or.inr rfl) hs P (fun m1 v hs1 h => ?_) (fun m2 v hs2 h => ?_) nx
  · obtain ⟨n, k1, k2, k3, k4⟩ := hs1
    refine L_b13 m1 Q c s n k1 (iI (k : Int)) v ?_
    refine ⟨rin 1 (by omega) (by omega), ?_⟩
    rw [show m1.1 2 (iI (k : Int) + (1 : Int32)).toNatClampNeg = xs (k + 1) from rv k4 1 (by omega) (by omega)]
    exact h
  · obtain ⟨n, k1, _⟩ := hs2
    exact L_c13 m2 Q c s n k1 (iI (k : Int)) v v ⟨fun _ => h, fun w => absurd rfl w⟩
theorem L_k14 {Ls : Nat} {xs : Nat → Int32} (hL : Ls ≤ 4608) {m : am_M} {Q : Option Value → am_M → Prop} {c s k : Nat} (hI : Inv m) (hs : SC Ls xs m) (hk : k + 9 ≤ Ls) (nx : ∀ m2, Inv m2 → SC Ls xs m2 → am_WP YL 231 c s 18 [some (.ref 2), some (.ref 3), some (.ref 109), some (.int (iI (k : Int) + 9))] [] m2 Q) : am_WP YL 231 (3 + c) (10 + s) 784 [some (.ref 2), some (.ref 3), some (.ref 109), some (.int (iI (k : Int)))] [] m Q := by
  obtain ⟨n, k1, k2, k3, k4⟩ := id hs
  refine L_a14 m Q c s n k1 (iI (k : Int)) ?_
  have P := (P_office hI).b
  refine L_call (np2 := 792) hL (Or.inl rfl) hs P (fun m1 v hs1 h => ?_) (fun m2 v hs2 h => ?_) nx
  · obtain ⟨n, k1, k2, k3, k4⟩ := hs1
    refine L_b14 m1 Q c s n k1 (iI (k : Int)) v ?_
    exact h
  · obtain ⟨n, k1, _⟩ := hs2
    exact L_c14 m2 Q c s n k1 (iI (k : Int)) v v ⟨fun _ => h, fun w => absurd rfl w⟩
theorem L_k15 {Ls : Nat} {xs : Nat → Int32} (hL : Ls ≤ 4608) {m : am_M} {Q : Option Value → am_M → Prop} {c s k : Nat} (hI : Inv m) (hs : SC Ls xs m) (hk : k + 9 ≤ Ls) (nx : ∀ m2, Inv m2 → SC Ls xs m2 → am_WP YL 231 c s 18 [some (.ref 2), some (.ref 3), some (.ref 109), some (.int (iI (k : Int) + 9))] [] m2 Q) : am_WP YL 231 (3 + c) (10 + s) 797 [some (.ref 2), some (.ref 3), some (.ref 109), some (.int (iI (k : Int)))] [] m Q := by
  obtain ⟨n, k1, k2, k3, k4⟩ := id hs
  refine L_a15 m Q c s n k1 (iI (k : Int)) ?_
  refine ⟨rin 1 (by omega) (by omega), ?_⟩
  rw [show m.1 2 (iI (k : Int) + (1 : Int32)).toNatClampNeg = xs (k + 1) from rv k4 1 (by omega) (by omega)]
  have P := (P_out hI (xs (k + 1)).toInt (iI_b _)).b
  simp only [iI_self] at P
  refine L_call (np2 := 815) hL (Or.inr rfl) hs P (fun m1 v hs1 h => ?_) (fun m2 v hs2 h => ?_) nx
  · obtain ⟨n, k1, k2, k3, k4⟩ := hs1
    refine L_b15 m1 Q c s n k1 (iI (k : Int)) v ?_
    refine ⟨rin 1 (by omega) (by omega), ?_⟩
    rw [show m1.1 2 (iI (k : Int) + (1 : Int32)).toNatClampNeg = xs (k + 1) from rv k4 1 (by omega) (by omega)]
    exact h
  · obtain ⟨n, k1, _⟩ := hs2
    exact L_c15 m2 Q c s n k1 (iI (k : Int)) v v ⟨fun _ => h, fun w => absurd rfl w⟩
theorem L_k16 {Ls : Nat} {xs : Nat → Int32} (hL : Ls ≤ 4608) {m : am_M} {Q : Option Value → am_M → Prop} {c s k : Nat} (hI : Inv m) (hs : SC Ls xs m) (hk : k + 9 ≤ Ls) (nx : ∀ m2, Inv m2 → SC Ls xs m2 → am_WP YL 231 c s 18 [some (.ref 2), some (.ref 3), some (.ref 109), some (.int (iI (k : Int) + 9))] [] m2 Q) : am_WP YL 231 (3 + c) (10 + s) 820 [some (.ref 2), some (.ref 3), some (.ref 109), some (.int (iI (k : Int)))] [] m Q := by
  obtain ⟨n, k1, k2, k3, k4⟩ := id hs
  refine L_a16 m Q c s n k1 (iI (k : Int)) ?_
  refine ⟨rin 1 (by omega) (by omega), rin 2 (by omega) (by omega), ?_⟩
  rw [show m.1 2 (iI (k : Int) + (1 : Int32)).toNatClampNeg = xs (k + 1) from rv k4 1 (by omega) (by omega), show m.1 2 (iI (k : Int) + (2 : Int32)).toNatClampNeg = xs (k + 2) from rv k4 2 (by omega) (by omega)]
  have P := (P_fire hI (xs (k + 1)).toInt (xs (k + 2)).toInt (iI_b _) (iI_b _)).b
  simp only [iI_self] at P
  refine L_call (np2 := 848) hL (Or.inl rfl) hs P (fun m1 v hs1 h => ?_) (fun m2 v hs2 h => ?_) nx
  · obtain ⟨n, k1, k2, k3, k4⟩ := hs1
    refine L_b16 m1 Q c s n k1 (iI (k : Int)) v ?_
    refine ⟨rin 1 (by omega) (by omega), rin 2 (by omega) (by omega), ?_⟩
    rw [show m1.1 2 (iI (k : Int) + (1 : Int32)).toNatClampNeg = xs (k + 1) from rv k4 1 (by omega) (by omega), show m1.1 2 (iI (k : Int) + (2 : Int32)).toNatClampNeg = xs (k + 2) from rv k4 2 (by omega) (by omega)]
    exact h
  · obtain ⟨n, k1, _⟩ := hs2
    exact L_c16 m2 Q c s n k1 (iI (k : Int)) v v ⟨fun _ => h, fun w => absurd rfl w⟩
theorem L_k17 {Ls : Nat} {xs : Nat → Int32} (hL : Ls ≤ 4608) {m : am_M} {Q : Option Value → am_M → Prop} {c s k : Nat} (hI : Inv m) (hs : SC Ls xs m) (hk : k + 9 ≤ Ls) (nx : ∀ m2, Inv m2 → SC Ls xs m2 → am_WP YL 231 c s 18 [some (.ref 2), some (.ref 3), some (.ref 109), some (.int (iI (k : Int) + 9))] [] m2 Q) : am_WP YL 231 (3 + c) (10 + s) 853 [some (.ref 2), some (.ref 3), some (.ref 109), some (.int (iI (k : Int)))] [] m Q := by
  obtain ⟨n, k1, k2, k3, k4⟩ := id hs
  refine L_a17 m Q c s n k1 (iI (k : Int)) ?_
  refine ⟨rin 1 (by omega) (by omega), rin 2 (by omega) (by omega), ?_⟩
  rw [show m.1 2 (iI (k : Int) + (1 : Int32)).toNatClampNeg = xs (k + 1) from rv k4 1 (by omega) (by omega), show m.1 2 (iI (k : Int) + (2 : Int32)).toNatClampNeg = xs (k + 2) from rv k4 2 (by omega) (by omega)]
  have P := (P_patch hI (xs (k + 1)).toInt (xs (k + 2)).toInt (iI_b _) (iI_b _)).b
  simp only [iI_self] at P
  refine L_call (np2 := 881) hL (Or.inl rfl) hs P (fun m1 v hs1 h => ?_) (fun m2 v hs2 h => ?_) nx
  · obtain ⟨n, k1, k2, k3, k4⟩ := hs1
    refine L_b17 m1 Q c s n k1 (iI (k : Int)) v ?_
    refine ⟨rin 1 (by omega) (by omega), rin 2 (by omega) (by omega), ?_⟩
    rw [show m1.1 2 (iI (k : Int) + (1 : Int32)).toNatClampNeg = xs (k + 1) from rv k4 1 (by omega) (by omega), show m1.1 2 (iI (k : Int) + (2 : Int32)).toNatClampNeg = xs (k + 2) from rv k4 2 (by omega) (by omega)]
    exact h
  · obtain ⟨n, k1, _⟩ := hs2
    exact L_c17 m2 Q c s n k1 (iI (k : Int)) v v ⟨fun _ => h, fun w => absurd rfl w⟩
theorem L_k18 {Ls : Nat} {xs : Nat → Int32} (hL : Ls ≤ 4608) {m : am_M} {Q : Option Value → am_M → Prop} {c s k : Nat} (hI : Inv m) (hs : SC Ls xs m) (hk : k + 9 ≤ Ls) (nx : ∀ m2, Inv m2 → SC Ls xs m2 → am_WP YL 231 c s 18 [some (.ref 2), some (.ref 3), some (.ref 109), some (.int (iI (k : Int) + 9))] [] m2 Q) : am_WP YL 231 (3 + c) (10 + s) 886 [some (.ref 2), some (.ref 3), some (.ref 109), some (.int (iI (k : Int)))] [] m Q := by
  obtain ⟨n, k1, k2, k3, k4⟩ := id hs
  refine L_a18 m Q c s n k1 (iI (k : Int)) ?_
  refine ⟨rin 1 (by omega) (by omega), rin 2 (by omega) (by omega), ?_⟩
  rw [show m.1 2 (iI (k : Int) + (1 : Int32)).toNatClampNeg = xs (k + 1) from rv k4 1 (by omega) (by omega), show m.1 2 (iI (k : Int) + (2 : Int32)).toNatClampNeg = xs (k + 2) from rv k4 2 (by omega) (by omega)]
  have P := (P_fewest hI (xs (k + 1)) (xs (k + 2))).b
  refine L_call (np2 := 914) hL (Or.inl rfl) hs P (fun m1 v hs1 h => ?_) (fun m2 v hs2 h => ?_) nx
  · obtain ⟨n, k1, k2, k3, k4⟩ := hs1
    refine L_b18 m1 Q c s n k1 (iI (k : Int)) v ?_
    refine ⟨rin 1 (by omega) (by omega), rin 2 (by omega) (by omega), ?_⟩
    rw [show m1.1 2 (iI (k : Int) + (1 : Int32)).toNatClampNeg = xs (k + 1) from rv k4 1 (by omega) (by omega), show m1.1 2 (iI (k : Int) + (2 : Int32)).toNatClampNeg = xs (k + 2) from rv k4 2 (by omega) (by omega)]
    exact h
  · obtain ⟨n, k1, _⟩ := hs2
    exact L_c18 m2 Q c s n k1 (iI (k : Int)) v v ⟨fun _ => h, fun w => absurd rfl w⟩
theorem L_k19 {Ls : Nat} {xs : Nat → Int32} (hL : Ls ≤ 4608) {m : am_M} {Q : Option Value → am_M → Prop} {c s k : Nat} (hI : Inv m) (hs : SC Ls xs m) (hk : k + 9 ≤ Ls) (nx : ∀ m2, Inv m2 → SC Ls xs m2 → am_WP YL 231 c s 18 [some (.ref 2), some (.ref 3), some (.ref 109), some (.int (iI (k : Int) + 9))] [] m2 Q) : am_WP YL 231 (3 + c) (10 + s) 919 [some (.ref 2), some (.ref 3), some (.ref 109), some (.int (iI (k : Int)))] [] m Q := by
  obtain ⟨n, k1, k2, k3, k4⟩ := id hs
  refine L_a19 m Q c s n k1 (iI (k : Int)) ?_
  refine ⟨rin 1 (by omega) (by omega), ?_⟩
  rw [show m.1 2 (iI (k : Int) + (1 : Int32)).toNatClampNeg = xs (k + 1) from rv k4 1 (by omega) (by omega)]
  have P := (P_next hI (xs (k + 1)).toInt (iI_b _)).b
  simp only [iI_self] at P
  refine L_call (np2 := 937) hL (Or.inl rfl) hs P (fun m1 v hs1 h => ?_) (fun m2 v hs2 h => ?_) nx
  · obtain ⟨n, k1, k2, k3, k4⟩ := hs1
    refine L_b19 m1 Q c s n k1 (iI (k : Int)) v ?_
    refine ⟨rin 1 (by omega) (by omega), ?_⟩
    rw [show m1.1 2 (iI (k : Int) + (1 : Int32)).toNatClampNeg = xs (k + 1) from rv k4 1 (by omega) (by omega)]
    exact h
  · obtain ⟨n, k1, _⟩ := hs2
    exact L_c19 m2 Q c s n k1 (iI (k : Int)) v v ⟨fun _ => h, fun w => absurd rfl w⟩
theorem L_k20 {Ls : Nat} {xs : Nat → Int32} (hL : Ls ≤ 4608) {m : am_M} {Q : Option Value → am_M → Prop} {c s k : Nat} (hI : Inv m) (hs : SC Ls xs m) (hk : k + 9 ≤ Ls) (nx : ∀ m2, Inv m2 → SC Ls xs m2 → am_WP YL 231 c s 18 [some (.ref 2), some (.ref 3), some (.ref 109), some (.int (iI (k : Int) + 9))] [] m2 Q) : am_WP YL 231 (3 + c) (10 + s) 942 [some (.ref 2), some (.ref 3), some (.ref 109), some (.int (iI (k : Int)))] [] m Q := by
  obtain ⟨n, k1, k2, k3, k4⟩ := id hs
  refine L_a20 m Q c s n k1 (iI (k : Int)) ?_
  refine ⟨rin 1 (by omega) (by omega), rin 2 (by omega) (by omega), ?_⟩
  rw [show m.1 2 (iI (k : Int) + (1 : Int32)).toNatClampNeg = xs (k + 1) from rv k4 1 (by omega) (by omega), show m.1 2 (iI (k : Int) + (2 : Int32)).toNatClampNeg = xs (k + 2) from rv k4 2 (by omega) (by omega)]
  have P := (P_crew hI (xs (k + 1)).toInt (xs (k + 2)).toInt (iI_b _) (iI_b _)).b
  simp only [iI_self] at P
  refine L_call (np2 := 970) hL (Or.inl rfl) hs P (fun m1 v hs1 h => ?_) (fun m2 v hs2 h => ?_) nx
  · obtain ⟨n, k1, k2, k3, k4⟩ := hs1
    refine L_b20 m1 Q c s n k1 (iI (k : Int)) v ?_
    refine ⟨rin 1 (by omega) (by omega), rin 2 (by omega) (by omega), ?_⟩
    rw [show m1.1 2 (iI (k : Int) + (1 : Int32)).toNatClampNeg = xs (k + 1) from rv k4 1 (by omega) (by omega), show m1.1 2 (iI (k : Int) + (2 : Int32)).toNatClampNeg = xs (k + 2) from rv k4 2 (by omega) (by omega)]
    exact h
  · obtain ⟨n, k1, _⟩ := hs2
    exact L_c20 m2 Q c s n k1 (iI (k : Int)) v v ⟨fun _ => h, fun w => absurd rfl w⟩
theorem L_k21 {Ls : Nat} {xs : Nat → Int32} (hL : Ls ≤ 4608) {m : am_M} {Q : Option Value → am_M → Prop} {c s k : Nat} (hI : Inv m) (hs : SC Ls xs m) (hk : k + 9 ≤ Ls) (nx : ∀ m2, Inv m2 → SC Ls xs m2 → am_WP YL 231 c s 18 [some (.ref 2), some (.ref 3), some (.ref 109), some (.int (iI (k : Int) + 9))] [] m2 Q) : am_WP YL 231 (3 + c) (10 + s) 975 [some (.ref 2), some (.ref 3), some (.ref 109), some (.int (iI (k : Int)))] [] m Q := by
  obtain ⟨n, k1, k2, k3, k4⟩ := id hs
  refine L_a21 m Q c s n k1 (iI (k : Int)) ?_
  refine ⟨rin 1 (by omega) (by omega), rin 2 (by omega) (by omega), rin 3 (by omega) (by omega), ?_⟩
  rw [show m.1 2 (iI (k : Int) + (1 : Int32)).toNatClampNeg = xs (k + 1) from rv k4 1 (by omega) (by omega), show m.1 2 (iI (k : Int) + (2 : Int32)).toNatClampNeg = xs (k + 2) from rv k4 2 (by omega) (by omega), show m.1 2 (iI (k : Int) + (3 : Int32)).toNatClampNeg = xs (k + 3) from rv k4 3 (by omega) (by omega)]
  have P := (P_move hI (xs (k + 1)).toInt (xs (k + 2)).toInt (xs (k + 3)).toInt (iI_b _) (iI_b _) (iI_b _)).b
  simp only [iI_self] at P
  refine L_call (np2 := 1013) hL (Or.inr rfl) hs P (fun m1 v hs1 h => ?_) (fun m2 v hs2 h => ?_) nx
  · obtain ⟨n, k1, k2, k3, k4⟩ := hs1
    refine L_b21 m1 Q c s n k1 (iI (k : Int)) v ?_
    refine ⟨rin 1 (by omega) (by omega), rin 2 (by omega) (by omega), rin 3 (by omega) (by omega), ?_⟩
    rw [show m1.1 2 (iI (k : Int) + (1 : Int32)).toNatClampNeg = xs (k + 1) from rv k4 1 (by omega) (by omega), show m1.1 2 (iI (k : Int) + (2 : Int32)).toNatClampNeg = xs (k + 2) from rv k4 2 (by omega) (by omega), show m1.1 2 (iI (k : Int) + (3 : Int32)).toNatClampNeg = xs (k + 3) from rv k4 3 (by omega) (by omega)]
    exact h
  · obtain ⟨n, k1, _⟩ := hs2
    exact L_c21 m2 Q c s n k1 (iI (k : Int)) v v ⟨fun _ => h, fun w => absurd rfl w⟩
theorem L_k22 {Ls : Nat} {xs : Nat → Int32} (hL : Ls ≤ 4608) {m : am_M} {Q : Option Value → am_M → Prop} {c s k : Nat} (hI : Inv m) (hs : SC Ls xs m) (hk : k + 9 ≤ Ls) (nx : ∀ m2, Inv m2 → SC Ls xs m2 → am_WP YL 231 c s 18 [some (.ref 2), some (.ref 3), some (.ref 109), some (.int (iI (k : Int) + 9))] [] m2 Q) : am_WP YL 231 (3 + c) (10 + s) 1018 [some (.ref 2), some (.ref 3), some (.ref 109), some (.int (iI (k : Int)))] [] m Q := by
  obtain ⟨n, k1, k2, k3, k4⟩ := id hs
  refine L_a22 m Q c s n k1 (iI (k : Int)) ?_
  refine ⟨rin 1 (by omega) (by omega), ?_⟩
  rw [show m.1 2 (iI (k : Int) + (1 : Int32)).toNatClampNeg = xs (k + 1) from rv k4 1 (by omega) (by omega)]
  have P := (P_place hI (xs (k + 1)).toInt (iI_b _)).b
  simp only [iI_self] at P
  refine L_call (np2 := 1036) hL (Or.inl rfl) hs P (fun m1 v hs1 h => ?_) (fun m2 v hs2 h => ?_) nx
  · obtain ⟨n, k1, k2, k3, k4⟩ := hs1
    refine L_b22 m1 Q c s n k1 (iI (k : Int)) v ?_
    refine ⟨rin 1 (by omega) (by omega), ?_⟩
    rw [show m1.1 2 (iI (k : Int) + (1 : Int32)).toNatClampNeg = xs (k + 1) from rv k4 1 (by omega) (by omega)]
    exact h
  · obtain ⟨n, k1, _⟩ := hs2
    exact L_c22 m2 Q c s n k1 (iI (k : Int)) v v ⟨fun _ => h, fun w => absurd rfl w⟩
theorem L_k23 {Ls : Nat} {xs : Nat → Int32} (hL : Ls ≤ 4608) {m : am_M} {Q : Option Value → am_M → Prop} {c s k : Nat} (hI : Inv m) (hs : SC Ls xs m) (hk : k + 9 ≤ Ls) (nx : ∀ m2, Inv m2 → SC Ls xs m2 → am_WP YL 231 c s 18 [some (.ref 2), some (.ref 3), some (.ref 109), some (.int (iI (k : Int) + 9))] [] m2 Q) : am_WP YL 231 (3 + c) (10 + s) 1041 [some (.ref 2), some (.ref 3), some (.ref 109), some (.int (iI (k : Int)))] [] m Q := by
  obtain ⟨n, k1, k2, k3, k4⟩ := id hs
  refine L_a23 m Q c s n k1 (iI (k : Int)) ?_
  refine ⟨rin 1 (by omega) (by omega), rin 2 (by omega) (by omega), rin 3 (by omega) (by omega), ?_⟩
  rw [show m.1 2 (iI (k : Int) + (1 : Int32)).toNatClampNeg = xs (k + 1) from rv k4 1 (by omega) (by omega), show m.1 2 (iI (k : Int) + (2 : Int32)).toNatClampNeg = xs (k + 2) from rv k4 2 (by omega) (by omega), show m.1 2 (iI (k : Int) + (3 : Int32)).toNatClampNeg = xs (k + 3) from rv k4 3 (by omega) (by omega)]
  have P := (P_minutes hI (xs (k + 1)).toInt (xs (k + 2)).toInt (xs (k + 3)).toInt (iI_b _) (iI_b _) (iI_b _)).b
  simp only [iI_self] at P
  refine L_call (np2 := 1079) hL (Or.inl rfl) hs P (fun m1 v hs1 h => ?_) (fun m2 v hs2 h => ?_) nx
  · obtain ⟨n, k1, k2, k3, k4⟩ := hs1
    refine L_b23 m1 Q c s n k1 (iI (k : Int)) v ?_
    refine ⟨rin 1 (by omega) (by omega), rin 2 (by omega) (by omega), rin 3 (by omega) (by omega), ?_⟩
    rw [show m1.1 2 (iI (k : Int) + (1 : Int32)).toNatClampNeg = xs (k + 1) from rv k4 1 (by omega) (by omega), show m1.1 2 (iI (k : Int) + (2 : Int32)).toNatClampNeg = xs (k + 2) from rv k4 2 (by omega) (by omega), show m1.1 2 (iI (k : Int) + (3 : Int32)).toNatClampNeg = xs (k + 3) from rv k4 3 (by omega) (by omega)]
    exact h
  · obtain ⟨n, k1, _⟩ := hs2
    exact L_c23 m2 Q c s n k1 (iI (k : Int)) v v ⟨fun _ => h, fun w => absurd rfl w⟩
theorem L_k24 {Ls : Nat} {xs : Nat → Int32} (hL : Ls ≤ 4608) {m : am_M} {Q : Option Value → am_M → Prop} {c s k : Nat} (hI : Inv m) (hs : SC Ls xs m) (hk : k + 9 ≤ Ls) (nx : ∀ m2, Inv m2 → SC Ls xs m2 → am_WP YL 231 c s 18 [some (.ref 2), some (.ref 3), some (.ref 109), some (.int (iI (k : Int) + 9))] [] m2 Q) : am_WP YL 231 (3 + c) (10 + s) 1084 [some (.ref 2), some (.ref 3), some (.ref 109), some (.int (iI (k : Int)))] [] m Q := by
  obtain ⟨n, k1, k2, k3, k4⟩ := id hs
  refine L_a24 m Q c s n k1 (iI (k : Int)) ?_
  refine ⟨rin 1 (by omega) (by omega), rin 2 (by omega) (by omega), rin 3 (by omega) (by omega), rin 4 (by omega) (by omega), ?_⟩
  rw [show m.1 2 (iI (k : Int) + (1 : Int32)).toNatClampNeg = xs (k + 1) from rv k4 1 (by omega) (by omega), show m.1 2 (iI (k : Int) + (2 : Int32)).toNatClampNeg = xs (k + 2) from rv k4 2 (by omega) (by omega), show m.1 2 (iI (k : Int) + (3 : Int32)).toNatClampNeg = xs (k + 3) from rv k4 3 (by omega) (by omega), show m.1 2 (iI (k : Int) + (4 : Int32)).toNatClampNeg = xs (k + 4) from rv k4 4 (by omega) (by omega)]
  have P := (P_way hI (xs (k + 1)).toInt (xs (k + 2)).toInt (xs (k + 3)).toInt (xs (k + 4)).toInt (iI_b _) (iI_b _) (iI_b _) (iI_b _)).b
  simp only [iI_self] at P
  refine L_call (np2 := 1132) hL (Or.inl rfl) hs P (fun m1 v hs1 h => ?_) (fun m2 v hs2 h => ?_) nx
  · obtain ⟨n, k1, k2, k3, k4⟩ := hs1
    refine L_b24 m1 Q c s n k1 (iI (k : Int)) v ?_
    refine ⟨rin 1 (by omega) (by omega), rin 2 (by omega) (by omega), rin 3 (by omega) (by omega), rin 4 (by omega) (by omega), ?_⟩
    rw [show m1.1 2 (iI (k : Int) + (1 : Int32)).toNatClampNeg = xs (k + 1) from rv k4 1 (by omega) (by omega), show m1.1 2 (iI (k : Int) + (2 : Int32)).toNatClampNeg = xs (k + 2) from rv k4 2 (by omega) (by omega), show m1.1 2 (iI (k : Int) + (3 : Int32)).toNatClampNeg = xs (k + 3) from rv k4 3 (by omega) (by omega), show m1.1 2 (iI (k : Int) + (4 : Int32)).toNatClampNeg = xs (k + 4) from rv k4 4 (by omega) (by omega)]
    exact h
  · obtain ⟨n, k1, _⟩ := hs2
    exact L_c24 m2 Q c s n k1 (iI (k : Int)) v v ⟨fun _ => h, fun w => absurd rfl w⟩
theorem L_k25 {Ls : Nat} {xs : Nat → Int32} (hL : Ls ≤ 4608) {m : am_M} {Q : Option Value → am_M → Prop} {c s k : Nat} (hI : Inv m) (hs : SC Ls xs m) (hk : k + 9 ≤ Ls) (nx : ∀ m2, Inv m2 → SC Ls xs m2 → am_WP YL 231 c s 18 [some (.ref 2), some (.ref 3), some (.ref 109), some (.int (iI (k : Int) + 9))] [] m2 Q) : am_WP YL 231 (3 + c) (10 + s) 1137 [some (.ref 2), some (.ref 3), some (.ref 109), some (.int (iI (k : Int)))] [] m Q := by
  obtain ⟨n, k1, k2, k3, k4⟩ := id hs
  refine L_a25 m Q c s n k1 (iI (k : Int)) ?_
  have P := (P_send hI).b
  refine L_call (np2 := 1145) hL (Or.inl rfl) hs P (fun m1 v hs1 h => ?_) (fun m2 v hs2 h => ?_) nx
  · obtain ⟨n, k1, k2, k3, k4⟩ := hs1
    refine L_b25 m1 Q c s n k1 (iI (k : Int)) v ?_
    exact h
  · obtain ⟨n, k1, _⟩ := hs2
    exact L_c25 m2 Q c s n k1 (iI (k : Int)) v v ⟨fun _ => h, fun w => absurd rfl w⟩
theorem L_k26 {Ls : Nat} {xs : Nat → Int32} (hL : Ls ≤ 4608) {m : am_M} {Q : Option Value → am_M → Prop} {c s k : Nat} (hI : Inv m) (hs : SC Ls xs m) (hk : k + 9 ≤ Ls) (nx : ∀ m2, Inv m2 → SC Ls xs m2 → am_WP YL 231 c s 18 [some (.ref 2), some (.ref 3), some (.ref 109), some (.int (iI (k : Int) + 9))] [] m2 Q) : am_WP YL 231 (3 + c) (10 + s) 1150 [some (.ref 2), some (.ref 3), some (.ref 109), some (.int (iI (k : Int)))] [] m Q := by
  obtain ⟨n, k1, k2, k3, k4⟩ := id hs
  refine L_a26 m Q c s n k1 (iI (k : Int)) ?_
  refine ⟨rin 1 (by omega) (by omega), ?_⟩
  rw [show m.1 2 (iI (k : Int) + (1 : Int32)).toNatClampNeg = xs (k + 1) from rv k4 1 (by omega) (by omega)]
  have P := (P_sent hI (xs (k + 1)).toInt (iI_b _)).b
  simp only [iI_self] at P
  refine L_call (np2 := 1168) hL (Or.inl rfl) hs P (fun m1 v hs1 h => ?_) (fun m2 v hs2 h => ?_) nx
  · obtain ⟨n, k1, k2, k3, k4⟩ := hs1
    refine L_b26 m1 Q c s n k1 (iI (k : Int)) v ?_
    refine ⟨rin 1 (by omega) (by omega), ?_⟩
    rw [show m1.1 2 (iI (k : Int) + (1 : Int32)).toNatClampNeg = xs (k + 1) from rv k4 1 (by omega) (by omega)]
    exact h
  · obtain ⟨n, k1, _⟩ := hs2
    exact L_c26 m2 Q c s n k1 (iI (k : Int)) v v ⟨fun _ => h, fun w => absurd rfl w⟩
theorem L_k27 {Ls : Nat} {xs : Nat → Int32} (hL : Ls ≤ 4608) {m : am_M} {Q : Option Value → am_M → Prop} {c s k : Nat} (hI : Inv m) (hs : SC Ls xs m) (hk : k + 9 ≤ Ls) (nx : ∀ m2, Inv m2 → SC Ls xs m2 → am_WP YL 231 c s 18 [some (.ref 2), some (.ref 3), some (.ref 109), some (.int (iI (k : Int) + 9))] [] m2 Q) : am_WP YL 231 (3 + c) (10 + s) 1173 [some (.ref 2), some (.ref 3), some (.ref 109), some (.int (iI (k : Int)))] [] m Q := by
  obtain ⟨n, k1, k2, k3, k4⟩ := id hs
  refine L_a27 m Q c s n k1 (iI (k : Int)) ?_
  have P := (P_blinds hI).b
  refine L_call (np2 := 1181) hL (Or.inl rfl) hs P (fun m1 v hs1 h => ?_) (fun m2 v hs2 h => ?_) nx
  · obtain ⟨n, k1, k2, k3, k4⟩ := hs1
    refine L_b27 m1 Q c s n k1 (iI (k : Int)) v ?_
    exact h
  · obtain ⟨n, k1, _⟩ := hs2
    exact L_c27 m2 Q c s n k1 (iI (k : Int)) v v ⟨fun _ => h, fun w => absurd rfl w⟩
theorem L_k28 {Ls : Nat} {xs : Nat → Int32} (hL : Ls ≤ 4608) {m : am_M} {Q : Option Value → am_M → Prop} {c s k : Nat} (hI : Inv m) (hs : SC Ls xs m) (hk : k + 9 ≤ Ls) (nx : ∀ m2, Inv m2 → SC Ls xs m2 → am_WP YL 231 c s 18 [some (.ref 2), some (.ref 3), some (.ref 109), some (.int (iI (k : Int) + 9))] [] m2 Q) : am_WP YL 231 (3 + c) (10 + s) 1186 [some (.ref 2), some (.ref 3), some (.ref 109), some (.int (iI (k : Int)))] [] m Q := by
  obtain ⟨n, k1, k2, k3, k4⟩ := id hs
  refine L_a28 m Q c s n k1 (iI (k : Int)) ?_
  refine ⟨rin 1 (by omega) (by omega), ?_⟩
  rw [show m.1 2 (iI (k : Int) + (1 : Int32)).toNatClampNeg = xs (k + 1) from rv k4 1 (by omega) (by omega)]
  have P := (P_blind hI (xs (k + 1)).toInt (iI_b _)).b
  simp only [iI_self] at P
  refine L_call (np2 := 1204) hL (Or.inl rfl) hs P (fun m1 v hs1 h => ?_) (fun m2 v hs2 h => ?_) nx
  · obtain ⟨n, k1, k2, k3, k4⟩ := hs1
    refine L_b28 m1 Q c s n k1 (iI (k : Int)) v ?_
    refine ⟨rin 1 (by omega) (by omega), ?_⟩
    rw [show m1.1 2 (iI (k : Int) + (1 : Int32)).toNatClampNeg = xs (k + 1) from rv k4 1 (by omega) (by omega)]
    exact h
  · obtain ⟨n, k1, _⟩ := hs2
    exact L_c28 m2 Q c s n k1 (iI (k : Int)) v v ⟨fun _ => h, fun w => absurd rfl w⟩
theorem L_k29 {Ls : Nat} {xs : Nat → Int32} (hL : Ls ≤ 4608) {m : am_M} {Q : Option Value → am_M → Prop} {c s k : Nat} (hI : Inv m) (hs : SC Ls xs m) (hk : k + 9 ≤ Ls) (nx : ∀ m2, Inv m2 → SC Ls xs m2 → am_WP YL 231 c s 18 [some (.ref 2), some (.ref 3), some (.ref 109), some (.int (iI (k : Int) + 9))] [] m2 Q) : am_WP YL 231 (3 + c) (10 + s) 1209 [some (.ref 2), some (.ref 3), some (.ref 109), some (.int (iI (k : Int)))] [] m Q := by
  obtain ⟨n, k1, k2, k3, k4⟩ := id hs
  refine L_a29 m Q c s n k1 (iI (k : Int)) ?_
  have P := (P_best hI).b
  refine L_call (np2 := 1217) hL (Or.inl rfl) hs P (fun m1 v hs1 h => ?_) (fun m2 v hs2 h => ?_) nx
  · obtain ⟨n, k1, k2, k3, k4⟩ := hs1
    refine L_b29 m1 Q c s n k1 (iI (k : Int)) v ?_
    exact h
  · obtain ⟨n, k1, _⟩ := hs2
    exact L_c29 m2 Q c s n k1 (iI (k : Int)) v v ⟨fun _ => h, fun w => absurd rfl w⟩
theorem L_k30 {Ls : Nat} {xs : Nat → Int32} (hL : Ls ≤ 4608) {m : am_M} {Q : Option Value → am_M → Prop} {c s k : Nat} (hI : Inv m) (hs : SC Ls xs m) (hk : k + 9 ≤ Ls) (nx : ∀ m2, Inv m2 → SC Ls xs m2 → am_WP YL 231 c s 18 [some (.ref 2), some (.ref 3), some (.ref 109), some (.int (iI (k : Int) + 9))] [] m2 Q) : am_WP YL 231 (3 + c) (10 + s) 1222 [some (.ref 2), some (.ref 3), some (.ref 109), some (.int (iI (k : Int)))] [] m Q := by
  obtain ⟨n, k1, k2, k3, k4⟩ := id hs
  refine L_a30 m Q c s n k1 (iI (k : Int)) ?_
  refine ⟨rin 1 (by omega) (by omega), rin 2 (by omega) (by omega), ?_⟩
  rw [show m.1 2 (iI (k : Int) + (1 : Int32)).toNatClampNeg = xs (k + 1) from rv k4 1 (by omega) (by omega), show m.1 2 (iI (k : Int) + (2 : Int32)).toNatClampNeg = xs (k + 2) from rv k4 2 (by omega) (by omega)]
  have P := (P_claim hI (xs (k + 1)).toInt (xs (k + 2)).toInt (iI_b _) (iI_b _)).b
  simp only [iI_self] at P
  refine L_call (np2 := 1250) hL (Or.inr rfl) hs P (fun m1 v hs1 h => ?_) (fun m2 v hs2 h => ?_) nx
  · obtain ⟨n, k1, k2, k3, k4⟩ := hs1
    refine L_b30 m1 Q c s n k1 (iI (k : Int)) v ?_
    refine ⟨rin 1 (by omega) (by omega), rin 2 (by omega) (by omega), ?_⟩
    rw [show m1.1 2 (iI (k : Int) + (1 : Int32)).toNatClampNeg = xs (k + 1) from rv k4 1 (by omega) (by omega), show m1.1 2 (iI (k : Int) + (2 : Int32)).toNatClampNeg = xs (k + 2) from rv k4 2 (by omega) (by omega)]
    exact h
  · obtain ⟨n, k1, _⟩ := hs2
    exact L_c30 m2 Q c s n k1 (iI (k : Int)) v v ⟨fun _ => h, fun w => absurd rfl w⟩
theorem L_k31 {Ls : Nat} {xs : Nat → Int32} (hL : Ls ≤ 4608) {m : am_M} {Q : Option Value → am_M → Prop} {c s k : Nat} (hI : Inv m) (hs : SC Ls xs m) (hk : k + 9 ≤ Ls) (nx : ∀ m2, Inv m2 → SC Ls xs m2 → am_WP YL 231 c s 18 [some (.ref 2), some (.ref 3), some (.ref 109), some (.int (iI (k : Int) + 9))] [] m2 Q) : am_WP YL 231 (3 + c) (10 + s) 1255 [some (.ref 2), some (.ref 3), some (.ref 109), some (.int (iI (k : Int)))] [] m Q := by
  obtain ⟨n, k1, k2, k3, k4⟩ := id hs
  refine L_a31 m Q c s n k1 (iI (k : Int)) ?_
  have P := (P_check hI).b
  refine L_call (np2 := 1263) hL (Or.inl rfl) hs P (fun m1 v hs1 h => ?_) (fun m2 v hs2 h => ?_) nx
  · obtain ⟨n, k1, k2, k3, k4⟩ := hs1
    refine L_b31 m1 Q c s n k1 (iI (k : Int)) v ?_
    exact h
  · obtain ⟨n, k1, _⟩ := hs2
    exact L_c31 m2 Q c s n k1 (iI (k : Int)) v v ⟨fun _ => h, fun w => absurd rfl w⟩
theorem L_k32 {Ls : Nat} {xs : Nat → Int32} (hL : Ls ≤ 4608) {m : am_M} {Q : Option Value → am_M → Prop} {c s k : Nat} (hI : Inv m) (hs : SC Ls xs m) (hk : k + 9 ≤ Ls) (nx : ∀ m2, Inv m2 → SC Ls xs m2 → am_WP YL 231 c s 18 [some (.ref 2), some (.ref 3), some (.ref 109), some (.int (iI (k : Int) + 9))] [] m2 Q) : am_WP YL 231 (3 + c) (10 + s) 1268 [some (.ref 2), some (.ref 3), some (.ref 109), some (.int (iI (k : Int)))] [] m Q := by
  obtain ⟨n, k1, k2, k3, k4⟩ := id hs
  refine L_a32 m Q c s n k1 (iI (k : Int)) ?_
  have P := (P_undo hI).b
  refine L_call (np2 := 1276) hL (Or.inr rfl) hs P (fun m1 v hs1 h => ?_) (fun m2 v hs2 h => ?_) nx
  · obtain ⟨n, k1, k2, k3, k4⟩ := hs1
    refine L_b32 m1 Q c s n k1 (iI (k : Int)) v ?_
    exact h
  · obtain ⟨n, k1, _⟩ := hs2
    exact L_c32 m2 Q c s n k1 (iI (k : Int)) v v ⟨fun _ => h, fun w => absurd rfl w⟩
theorem L_k33 {Ls : Nat} {xs : Nat → Int32} (hL : Ls ≤ 4608) {m : am_M} {Q : Option Value → am_M → Prop} {c s k : Nat} (hI : Inv m) (hs : SC Ls xs m) (hk : k + 9 ≤ Ls) (nx : ∀ m2, Inv m2 → SC Ls xs m2 → am_WP YL 231 c s 18 [some (.ref 2), some (.ref 3), some (.ref 109), some (.int (iI (k : Int) + 9))] [] m2 Q) : am_WP YL 231 (3 + c) (10 + s) 1281 [some (.ref 2), some (.ref 3), some (.ref 109), some (.int (iI (k : Int)))] [] m Q := by
  obtain ⟨n, k1, k2, k3, k4⟩ := id hs
  refine L_a33 m Q c s n k1 (iI (k : Int)) ?_
  refine ⟨rin 1 (by omega) (by omega), ?_⟩
  rw [show m.1 2 (iI (k : Int) + (1 : Int32)).toNatClampNeg = xs (k + 1) from rv k4 1 (by omega) (by omega)]
  have P := (P_count hI (xs (k + 1)).toInt (iI_b _)).b
  simp only [iI_self] at P
  refine L_call (np2 := 1299) hL (Or.inl rfl) hs P (fun m1 v hs1 h => ?_) (fun m2 v hs2 h => ?_) nx
  · obtain ⟨n, k1, k2, k3, k4⟩ := hs1
    refine L_b33 m1 Q c s n k1 (iI (k : Int)) v ?_
    refine ⟨rin 1 (by omega) (by omega), ?_⟩
    rw [show m1.1 2 (iI (k : Int) + (1 : Int32)).toNatClampNeg = xs (k + 1) from rv k4 1 (by omega) (by omega)]
    exact h
  · obtain ⟨n, k1, _⟩ := hs2
    exact L_c33 m2 Q c s n k1 (iI (k : Int)) v v ⟨fun _ => h, fun w => absurd rfl w⟩
theorem L_loop {Ls : Nat} {xs : Nat → Int32} (hL : Ls ≤ 4608) (n : Nat) : ∀ (k : Nat) (m : am_M), Inv m → SC Ls xs m → Ls < k + 9 * (n + 1) → k ≤ 10000 - 9 → am_WP YL 231 (3 * n) (10 * n) 18 [some (.ref 2), some (.ref 3), some (.ref 109), some (.int (iI (k : Int)))] [] m (fun r _ => r = some (.int 1)) := by
  induction n with
  | zero =>
    intro k m hI hs hk hk2
    obtain ⟨n, k1, k2, k3, k4⟩ := id hs
    refine L_18 m _ _ _ n k1 _ ⟨fun _ => rfl, fun z => absurd ?_ z⟩
    rw [k2, show (9 : Int32) = iI 9 from rfl, iI_sub]
    exact (iI_lt (by omega) (by omega) (by omega) (by omega)).mpr (by omega)
  | succ n ih =>
    intro k m hI hs hk hk2
    obtain ⟨n', k1, k2, k3, k4⟩ := id hs
    rw [show 3 * (n + 1) = 3 + 3 * n by omega, show 10 * (n + 1) = 10 + 10 * n by omega]
    refine L_18 m _ _ _ n' k1 _ ⟨fun _ => rfl, fun z => ?_⟩
    rw [k2, show (9 : Int32) = iI 9 from rfl, iI_sub, iI_lt (by omega) (by omega) (by omega) (by omega)] at z
    have hk9 : k + 9 ≤ Ls := by omega
    have nx : ∀ m2, Inv m2 → SC Ls xs m2 → am_WP YL 231 (3 * n) (10 * n) 18 [some (.ref 2), some (.ref 3), some (.ref 109), some (.int (iI (k : Int) + 9))] [] m2 (fun r _ => r = some (.int 1)) := fun m2 hI2 hs2 => by
      have := ih (k + 9) m2 hI2 hs2 (by omega) (by omega)
      rw [show (9 : Int32) = iI 9 from rfl, iI_add, show (k : Int) + 9 = ((k + 9 : Nat) : Int) by omega]
      exact this
    refine ⟨(iI_in (by omega) (by omega)).mpr ⟨by omega, by omega⟩, fun _ => am_bd (by omega) (by omega) (nx m hI hs), fun _ => L_k0 hL hI hs hk9 nx, fun _ => L_k1 hL hI hs hk9 nx, fun _ => L_k2 hL hI hs hk9 nx, fun _ => L_k3 hL hI hs hk9 nx, fun _ => L_k4 hL hI hs hk9 nx, fun _ => L_k5 hL hI hs hk9 nx, fun _ => L_k6 hL hI hs hk9 nx, fun _ => L_k7 hL hI hs hk9 nx, fun _ => L_k8 hL hI hs hk9 nx, fun _ => L_k9 hL hI hs hk9 nx, fun _ => L_k10 hL hI hs hk9 nx, fun _ => L_k11 hL hI hs hk9 nx, fun _ => L_k12 hL hI hs hk9 nx, fun _ => L_k13 hL hI hs hk9 nx, fun _ => L_k14 hL hI hs hk9 nx, fun _ => L_k15 hL hI hs hk9 nx, fun _ => L_k16 hL hI hs hk9 nx, fun _ => L_k17 hL hI hs hk9 nx, fun _ => L_k18 hL hI hs hk9 nx, fun _ => L_k19 hL hI hs hk9 nx, fun _ => L_k20 hL hI hs hk9 nx, fun _ => L_k21 hL hI hs hk9 nx, fun _ => L_k22 hL hI hs hk9 nx, fun _ => L_k23 hL hI hs hk9 nx, fun _ => L_k24 hL hI hs hk9 nx, fun _ => L_k25 hL hI hs hk9 nx, fun _ => L_k26 hL hI hs hk9 nx, fun _ => L_k27 hL hI hs hk9 nx, fun _ => L_k28 hL hI hs hk9 nx, fun _ => L_k29 hL hI hs hk9 nx, fun _ => L_k30 hL hI hs hk9 nx, fun _ => L_k31 hL hI hs hk9 nx, fun _ => L_k32 hL hI hs hk9 nx, fun _ => L_k33 hL hI hs hk9 nx⟩
