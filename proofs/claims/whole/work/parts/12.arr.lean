/-! ===== arrays ===== -/
theorem am_ar20 {E : am_E} {Y : am_Y} {m : am_M} {a : Nat} : am_ar E Y m 20 a = .inl (m.1 a) := rfl
theorem am_ar21 {E : am_E} {Y : am_Y} {m : am_M} {a : Nat} : am_ar E Y m 21 a = .inr (.inl (m.2.1 a)) := rfl
theorem am_ar22 {E : am_E} {Y : am_Y} {m : am_M} {a : Nat} : am_ar E Y m 22 a = .inl (m.1 a) := rfl
theorem am_ar23 {E : am_E} {Y : am_Y} {m : am_M} {a : Nat} : am_ar E Y m 23 a = .inr (.inr (.inr (.inr (fun j => (am_gR Y m a j).map (am_ad E))))) := rfl
theorem am_ar24 {E : am_E} {Y : am_Y} {m : am_M} {a : Nat} : am_ar E Y m 24 a = .inr (.inr (.inr (.inr (fun j => (am_gR Y m a j).map (am_ad E))))) := rfl
theorem am_hK {E : am_E} {mi : Nat} {p : Program} {R : Room} {s : State} {mth : MethodId} {args : Array Value} {meth : Method} {c : Code} (hC : am_C E mi p R s mth args meth c) (d0 : Drawn) : va_K (am_D E) vwCl (am_tys E) (s.setDrawn d0) := hC.2.2.2.2.2.2.2.2.1.2.1
section ARR
variable {Y : am_Y} {mi mc ms pc l : Nat} {L : am_L} {S : List Value} {m : am_M} {Q : Option Value → am_M → Prop}
theorem am_q_iaload (hc : am_code mi pc = some (.iaload, l)) (h : am_st Y mi mc ms pc L S m (am_kW Y mi Q) (am_cW Y) Q (.iaload) l) : am_WP Y mi mc ms pc L S m Q := by
  have hg := am_g_e h
  clear h
  obtain ⟨hb, h⟩ := hg
  obtain rfl := am_beq hb
  obtain ⟨i, r1, e1, g1⟩ := am_i1_e h
  obtain ⟨a, r, e2, n, hka, hin, g2⟩ := am_r1_e g1
  clear h g1
  subst e2
  subst e1
  intro E p la e R s mth args below meth c Z d0 H locs cells slots ls hC hZ hd hR hS hl h1 h2
  by_cases h3 : a < 3
  · obtain ⟨cell, n1, k1, k2, k3, k4, k5, k6, k7, k8⟩ := hR.2.2.1.1 a h3
    cases hka.symm.trans k1
    have hlt : i.toNatClampNeg < n := Nat.not_le.mp fun q => hin (Or.inr q)
    have ea : am_ad E a = E.2.1 a := by unfold am_ad; rw [if_pos h3]
    have key : W p la e R (s.setDrawn d0) mth args below meth c H locs cells slots Z (F0 mth pc ls (.int i :: .ref (E.2.1 a) :: r.map (am_cv E))) := W.iald (s := s.setDrawn d0) (v := .int (m.1 a i.toNatClampNeg)) hC.1 hC.2.1 k2 k3 k4 (fun q => hin (q.elim Or.inl (fun z => Or.inr (by omega)))) (k7 _ hlt) rfl rfl (am_dc hC hc) (g2 E p la e R s mth args below meth c Z d0 H locs cells slots ls hC hZ hd hR hS hl h1 h2)
    rw [← ea] at key
    exact key
  · have hat := hR.cell hka (by omega) (Nat.ble_eq_true_of_le (Nat.le_of_not_lt h3))
    rw [am_ce_a hka (by omega), am_ar20] at hat
    exact va_iald hC.1 hC.2.1 (am_hK hC d0) (am_P1 hat) 0 0 rfl rfl hin (am_dc hC hc) (g2 E p la e R s mth args below meth c Z d0 H locs cells slots ls hC hZ hd hR hS hl h1 h2)
theorem am_q_baload (hc : am_code mi pc = some (.baload, l)) (h : am_st Y mi mc ms pc L S m (am_kW Y mi Q) (am_cW Y) Q (.baload) l) : am_WP Y mi mc ms pc L S m Q := by
  have hg := am_g_e h
  clear h
  obtain ⟨hb, h⟩ := hg
  obtain rfl := am_beq hb
  obtain ⟨i, r1, e1, g1⟩ := am_i1_e h
  obtain ⟨a, r, e2, n, hka, h3, hin, g2⟩ := am_r1_e g1
  clear h g1
  subst e2
  subst e1
  intro E p la e R s mth args below meth c Z d0 H locs cells slots ls hC hZ hd hR hS hl h1 h2
  have hat := hR.cell hka (by omega) h3
  rw [am_ce_a hka (by omega), am_ar22] at hat
  exact va_zald hC.1 hC.2.1 (am_hK hC d0) (am_P1 hat) 0 2 rfl rfl hin (am_dc hC hc) (g2 E p la e R s mth args below meth c Z d0 H locs cells slots ls hC hZ hd hR hS hl h1 h2)
theorem am_q_laload (hc : am_code mi pc = some (.laload, l)) (h : am_st Y mi mc ms pc L S m (am_kW Y mi Q) (am_cW Y) Q (.laload) l) : am_WP Y mi mc ms pc L S m Q := by
  have hg := am_g_e h
  clear h
  obtain ⟨hb, h⟩ := hg
  obtain rfl := am_beq hb
  obtain ⟨i, r1, e1, g1⟩ := am_i1_e h
  obtain ⟨a, r, e2, n, hka, h3, hin, g2⟩ := am_r1_e g1
  clear h g1
  subst e2
  subst e1
  intro E p la e R s mth args below meth c Z d0 H locs cells slots ls hC hZ hd hR hS hl h1 h2
  have hat := hR.cell hka (by omega) h3
  rw [am_ce_a hka (by omega), am_ar21] at hat
  exact va_lald hC.1 hC.2.1 (am_hK hC d0) (am_P1 hat) 0 1 rfl rfl hin (am_dc hC hc) (g2 E p la e R s mth args below meth c Z d0 H locs cells slots ls hC hZ hd hR hS hl h1 h2)
theorem am_q_aaload (hc : am_code mi pc = some (.aaload, l)) (h : am_st Y mi mc ms pc L S m (am_kW Y mi Q) (am_cW Y) Q (.aaload) l) : am_WP Y mi mc ms pc L S m Q := by
  have hg := am_g_e h
  clear h
  obtain ⟨hb, h⟩ := hg
  obtain rfl := am_beq hb
  obtain ⟨i, r1, e1, g1⟩ := am_i1_e h
  obtain ⟨a, r, e2, cd, n, o, hka, hcd, h3, hin, ho, g2⟩ := am_r1_e g1
  clear h g1
  subst e2
  subst e1
  intro E p la e R s mth args below meth c Z d0 H locs cells slots ls hC hZ hd hR hS hl h1 h2
  have hat := hR.cell hka (by omega) h3
  rw [am_ce_a hka (by omega)] at hat
  have g3 := g2 E p la e R s mth args below meth c Z d0 H locs cells slots ls hC hZ hd hR hS hl h1 h2
  rw [List.map_cons, am_cv_rf, ← ho] at g3
  rcases hcd with rfl | rfl
  · rw [am_ar23] at hat
    exact va_aldq hC.1 hC.2.1 (am_hK hC d0) (am_P1 hat) 0 3 rfl rfl hin (am_dc hC hc) g3
  · rw [am_ar24] at hat
    exact va_aldq hC.1 hC.2.1 (am_hK hC d0) (am_P1 hat) 0 4 rfl rfl hin (am_dc hC hc) g3
theorem am_q_arraylength (hc : am_code mi pc = some (.arraylength, l)) (h : am_st Y mi mc ms pc L S m (am_kW Y mi Q) (am_cW Y) Q (.arraylength) l) : am_WP Y mi mc ms pc L S m Q := by
  have hg := am_g_e h
  clear h
  obtain ⟨hb, h⟩ := hg
  obtain rfl := am_beq hb
  obtain ⟨a, r, e2, cd, n, hka, hcd, g2⟩ := am_r1_e h
  clear h
  subst e2
  intro E p la e R s mth args below meth c Z d0 H locs cells slots ls hC hZ hd hR hS hl h1 h2
  have g3 := g2 E p la e R s mth args below meth c Z d0 H locs cells slots ls hC hZ hd hR hS hl h1 h2
  have hK : va_K (am_D E) vwCl (am_tys E) (s.setDrawn d0) := hC.2.2.2.2.2.2.2.2.1.2.1
  by_cases h3 : a < 3
  · obtain ⟨cell, n1, k1, k2, k3, k4, k5, k6, k7, k8⟩ := hR.2.2.1.1 a h3
    cases hka.symm.trans k1
    have ea : am_ad E a = E.2.1 a := by unfold am_ad; rw [if_pos h3]
    have key : W p la e R (s.setDrawn d0) mth args below meth c H locs cells slots Z (F0 mth pc ls (.ref (E.2.1 a) :: r.map (am_cv E))) := W.alen (s := s.setDrawn d0) (n := Int32.ofNat n) hC.1 hC.2.1 k2 k3 k6 rfl rfl (am_dc hC hc) g3
    rw [← ea] at key
    exact key
  · have hat := hR.cell hka (by omega) (Nat.ble_eq_true_of_le (Nat.le_of_not_lt h3))
    rw [am_ce_a hka (by omega)] at hat
    rcases hcd with rfl | ⟨rfl | rfl | rfl | rfl, _⟩
    · exact va_alen hC.1 hC.2.1 hK (am_P1 hat) 0 0 rfl rfl rfl (am_dc hC hc) g3
    · exact va_alen hC.1 hC.2.1 hK (am_P1 hat) 0 1 rfl rfl rfl (am_dc hC hc) g3
    · exact va_alen hC.1 hC.2.1 hK (am_P1 hat) 0 2 rfl rfl rfl (am_dc hC hc) g3
    · exact va_alen hC.1 hC.2.1 hK (am_P1 hat) 0 3 rfl rfl rfl (am_dc hC hc) g3
    · exact va_alen hC.1 hC.2.1 hK (am_P1 hat) 0 4 rfl rfl rfl (am_dc hC hc) g3
theorem am_q_iastore (hc : am_code mi pc = some (.iastore, l)) (h : am_st Y mi mc ms pc L S m (am_kW Y mi Q) (am_cW Y) Q (.iastore) l) : am_WP Y mi mc ms pc L S m Q := by
  have hg := am_g_e h
  clear h
  obtain ⟨hb, h⟩ := hg
  obtain rfl := am_beq hb
  obtain ⟨x, r0, e0, g0⟩ := am_i1_e h
  obtain ⟨i, r1, e1, g1⟩ := am_i1_e g0
  obtain ⟨a, r, e2, n, hka, h3, hin, g2⟩ := am_r1_e g1
  clear h g0 g1
  subst e2
  subst e1
  subst e0
  intro E p la e R s mth args below meth c Z d0 H locs cells slots ls hC hZ hd hR hS hl h1 h2
  have hK : va_K (am_D E) vwCl (am_tys E) (s.setDrawn d0) := hC.2.2.2.2.2.2.2.2.1.2.1
  have h3' := Nat.le_of_ble_eq_true h3
  have hat := hR.cell hka (by omega) h3
  rw [am_ce_a hka (by omega), am_ar20] at hat
  refine W.iast (x := x) (j := i) hC.1 hC.2.1 (a := am_ad E a) hat ((hK.2 0 _ rfl).1 n (fun j => .int (m.1 a j))) (fun q => by cases q) (by show ¬ (i < 0 ∨ (arrV _ _ _).slots.size ≤ _); rw [arrV_size]; exact hin) rfl rfl (am_dc hC hc) fun H1 ec z oq => ?_
  refine g2 E p la e R s mth args below meth c Z d0 H1 _ cells slots ls hC hZ hd (hR.pI h3' ?_ z oq) (am_va_S hS h3' z oq) hl h1 h2
  rw [am_ce_a (show am_k Y (am_pI m a i.toNatClampNeg x) a = (20, n) from hka) (by omega), am_ar20]
  show H1[am_ad E a]? = some (vp_cell _ _)
  rw [ec]
  rw [vp_cell_i, vp_cell_i, arrV_store]
  congr 2
  funext q
  show updV _ _ _ q = Value.int (am_u m.1 a i.toNatClampNeg x a q)
  rw [am_u_at]
  by_cases hq : q = i.toNatClampNeg
  · subst hq
    simp [updV]
  · simp [updV, hq]
theorem am_q_bastore (hc : am_code mi pc = some (.bastore, l)) (h : am_st Y mi mc ms pc L S m (am_kW Y mi Q) (am_cW Y) Q (.bastore) l) : am_WP Y mi mc ms pc L S m Q := by
  have hg := am_g_e h
  clear h
  obtain ⟨hb, h⟩ := hg
  obtain rfl := am_beq hb
  obtain ⟨x, r0, e0, g0⟩ := am_i1_e h
  obtain ⟨i, r1, e1, g1⟩ := am_i1_e g0
  obtain ⟨a, r, e2, n, hka, h3, hin, hx, g2⟩ := am_r1_e g1
  clear h g0 g1
  subst e2
  subst e1
  subst e0
  intro E p la e R s mth args below meth c Z d0 H locs cells slots ls hC hZ hd hR hS hl h1 h2
  have hK : va_K (am_D E) vwCl (am_tys E) (s.setDrawn d0) := hC.2.2.2.2.2.2.2.2.1.2.1
  have h3' := Nat.le_of_ble_eq_true h3
  have hat := hR.cell hka (by omega) h3
  rw [am_ce_a hka (by omega), am_ar22] at hat
  refine W.zast (x := x) (j := i) hC.1 hC.2.1 (a := am_ad E a) hat ((hK.2 2 _ rfl).1 n (fun j => .int (m.1 a j))) (fun q => by cases q) (by show ¬ (i < 0 ∨ (arrV _ _ _).slots.size ≤ _); rw [arrV_size]; exact hin) rfl rfl (am_dc hC hc) fun H1 ec z oq => ?_
  refine g2 E p la e R s mth args below meth c Z d0 H1 _ cells slots ls hC hZ hd (hR.pI h3' ?_ z oq) (am_va_S hS h3' z oq) hl h1 h2
  rw [am_ce_a (show am_k Y (am_pI m a i.toNatClampNeg x) a = (22, n) from hka) (by omega), am_ar22]
  show H1[am_ad E a]? = some (vp_cell _ _)
  rw [ec, (am_nar01 hx).1]
  rw [vp_cell_i, vp_cell_i, arrV_store]
  congr 2
  funext q
  show updV _ _ _ q = Value.int (am_u m.1 a i.toNatClampNeg x a q)
  rw [am_u_at]
  by_cases hq : q = i.toNatClampNeg
  · subst hq
    simp [updV]
  · simp [updV, hq]
theorem am_q_lastore (hc : am_code mi pc = some (.lastore, l)) (h : am_st Y mi mc ms pc L S m (am_kW Y mi Q) (am_cW Y) Q (.lastore) l) : am_WP Y mi mc ms pc L S m Q := by
  have hg := am_g_e h
  clear h
  obtain ⟨hb, h⟩ := hg
  obtain rfl := am_beq hb
  obtain ⟨x, r0, e0, g0⟩ := am_l1_e h
  obtain ⟨i, r1, e1, g1⟩ := am_i1_e g0
  obtain ⟨a, r, e2, n, hka, h3, hin, g2⟩ := am_r1_e g1
  clear h g0 g1
  subst e2
  subst e1
  subst e0
  intro E p la e R s mth args below meth c Z d0 H locs cells slots ls hC hZ hd hR hS hl h1 h2
  have hK : va_K (am_D E) vwCl (am_tys E) (s.setDrawn d0) := hC.2.2.2.2.2.2.2.2.1.2.1
  have h3' := Nat.le_of_ble_eq_true h3
  have hat := hR.cell hka (by omega) h3
  rw [am_ce_a hka (by omega), am_ar21] at hat
  refine W.last (x := x) (j := i) hC.1 hC.2.1 (a := am_ad E a) hat ((hK.2 1 _ rfl).1 n (fun j => .long (m.2.1 a j))) (fun q => by cases q) (by show ¬ (i < 0 ∨ (arrV _ _ _).slots.size ≤ _); rw [arrV_size]; exact hin) rfl rfl (am_dc hC hc) fun H1 ec z oq => ?_
  refine g2 E p la e R s mth args below meth c Z d0 H1 _ cells slots ls hC hZ hd (hR.pJ h3' ?_ z oq) (am_va_S hS h3' z oq) hl h1 h2
  rw [am_ce_a (show am_k Y (am_pJ m a i.toNatClampNeg x) a = (21, n) from hka) (by omega), am_ar21]
  show H1[am_ad E a]? = some (vp_cell _ _)
  rw [ec]
  rw [vp_cell_l, vp_cell_l, arrV_store]
  congr 2
  funext q
  show updV _ _ _ q = Value.long (am_u m.2.1 a i.toNatClampNeg x a q)
  rw [am_u_at]
  by_cases hq : q = i.toNatClampNeg
  · subst hq
    simp [updV]
  · simp [updV, hq]
end ARR
