/-! ===== array stores of references, makings, static fields, ends ===== -/
theorem am_Rel.al {E : am_E} {Y : am_Y} {m : am_M} {U : State} {H H1 : Heap} {kd : Nat × Nat} (hR : am_Rel E Y m U H) (hkd : kd.1 ≠ 99) (hY1 : ∀ j, Y.1 (am_n m + 3) j = none) (hY2 : Y.2 (am_n m + 3) = none)
    (hc : va_at (am_D E) vwCl (H.size, am_ce E Y (am_al m kd) (am_n m + 3)) H1) (hz : H1.size = H.size + 1) (ho : ∀ q : Nat, q < H.size → H1[q]? = H[q]?) : am_Rel E Y (am_al m kd) U H1 := by
  have hkx : ∀ x, x ≠ am_n m + 3 → am_k Y (am_al m kd) x = am_k Y m x := fun x hx => by
    unfold am_k
    cases Y.2 x with
    | some q => rfl
    | none => show (if x = am_n m + 3 then kd else m.2.2.2.1 x) = _; rw [if_neg hx]
  have hB : E.1 ≤ H.size := by rw [hR.1]; omega
  have hlow : ∀ q : Nat, q < E.1 → H1[q]? = H[q]? := fun q hq => ho q (by omega)
  refine ⟨by rw [hz, hR.1]; rfl, fun x hx hlt => ?_, ⟨fun x hx => ?_, ?_, ?_⟩, fun x hx => ?_⟩
  · by_cases e0 : x = am_n m + 3
    · subst e0
      rw [am_ad_own (by omega), show E.1 + (am_n m + 3 - 3) = H.size by rw [hR.1]; omega]
      exact hc
    · have hlt' : x < am_n m + 3 := by
        have : x < am_n m + 1 + 3 := hlt
        omega
      have hold := hR.2.1 x hx hlt'
      have ece : am_ce E Y (am_al m kd) x = am_ce E Y m x := by
        refine am_ce_congr (hkx x e0) ?_ ?_ (fun j => ?_)
        · funext j; show (if x = am_n m + 3 then 0 else m.1 x j) = _; rw [if_neg e0]
        · funext j; show (if x = am_n m + 3 then 0 else m.2.1 x j) = _; rw [if_neg e0]
        · unfold am_gR
          cases Y.1 x j with
          | some q => rfl
          | none => show (if x = am_n m + 3 then none else m.2.2.1 x j) = _; rw [if_neg e0]
      rw [ece]
      exact hold.kept (ho _ hold.lt)
  · obtain ⟨cell, n, g1, g2, g3, g4, g5, g6, g7, g8⟩ := hR.2.2.1.1 x hx
    refine ⟨cell, n, by rw [hkx x (by omega)]; exact g1, by rw [hlow _ g8]; exact g2, g3, g4, g5, g6, fun j hj => ?_, g8⟩
    show _ = some (Value.int (if x = am_n m + 3 then 0 else m.1 x j))
    rw [if_neg (by omega)]
    exact g7 j hj
  · exact hR.2.2.1.2.1.kept (fun q _ hA => hlow q (Nat.not_le.mp hA))
  · exact hR.2.2.1.2.2.kept (fun q _ hA => hlow q (Nat.not_le.mp hA))
  · have hx : am_n m + 1 + 3 ≤ x := hx
    rw [hkx x (by omega)]
    exact hR.2.2.2 x (by omega)
theorem am_al_k {Y : am_Y} {m : am_M} {kd : Nat × Nat} (hY2 : Y.2 (am_n m + 3) = none) : am_k Y (am_al m kd) (am_n m + 3) = kd := by
  unfold am_k
  rw [hY2]
  show (if am_n m + 3 = am_n m + 3 then kd else _) = kd
  rw [if_pos rfl]
theorem am_al_I {m : am_M} {kd : Nat × Nat} : (am_al m kd).1 (am_n m + 3) = fun _ => 0 := by
  funext j
  show (if am_n m + 3 = am_n m + 3 then (0 : Int32) else _) = 0
  rw [if_pos rfl]
theorem am_al_J {m : am_M} {kd : Nat × Nat} : (am_al m kd).2.1 (am_n m + 3) = fun _ => 0 := by
  funext j
  show (if am_n m + 3 = am_n m + 3 then (0 : Int64) else _) = 0
  rw [if_pos rfl]
theorem am_al_R {Y : am_Y} {m : am_M} {kd : Nat × Nat} (hY1 : ∀ j, Y.1 (am_n m + 3) j = none) (j : Nat) : am_gR Y (am_al m kd) (am_n m + 3) j = none := by
  unfold am_gR
  rw [hY1 j]
  show (if am_n m + 3 = am_n m + 3 then none else _) = none
  rw [if_pos rfl]
theorem am_va_S_al {E : am_E} {H0 H H1 : Heap} {locs : List Loc} (hS : va_S (am_A E) H0 H locs) (hz : H1.size = H.size + 1) (ho : ∀ q : Nat, q < H.size → H1[q]? = H[q]?) : va_S (am_A E) H0 H1 locs :=
  ⟨by rw [hz]; exact Nat.le_succ_of_le hS.1, fun q h1 h2 => (ho q (Nat.lt_of_lt_of_le h1 hS.1)).trans (hS.2.1 q h1 h2), hS.2.2⟩
theorem am_cv_new {E : am_E} {Y : am_Y} {m : am_M} {U : State} {H : Heap} (hR : am_Rel E Y m U H) : am_cv E (.ref (am_n m + 3)) = .ref H.size := by
  show Value.ref (am_ad E (am_n m + 3)) = _
  rw [am_ad_own (by omega), hR.1]
  congr 1
theorem am_arc_ok : (List.any lw_tbl (fun w0 => decide (w0 = .arrayClass .int))) = true ∧ (List.any lw_tbl (fun w0 => decide (w0 = .arrayClass .long))) = true ∧ (List.any lw_tbl (fun w0 => decide (w0 = .arrayClass .boolean))) = true := by decide +kernel
theorem am_any_mem {l : List Cond} {w0 : Cond} (h : l.any (fun q => decide (q = w0)) = true) : w0 ∈ l := by
  obtain ⟨x, hx, he⟩ := List.any_eq_true.mp h
  rw [← of_decide_eq_true he]
  exact hx
theorem am_arc {t : FieldType} (h : t = .int ∨ t = .long ∨ t = .boolean) : Cond.arrayClass t ∈ am_TB := by
  rcases h with rfl | rfl | rfl
  · exact List.mem_filter.mpr ⟨am_any_mem am_arc_ok.1, rfl⟩
  · exact List.mem_filter.mpr ⟨am_any_mem am_arc_ok.2.1, rfl⟩
  · exact List.mem_filter.mpr ⟨am_any_mem am_arc_ok.2.2, rfl⟩
section ALC
variable {Y : am_Y} {mi mc ms pc l : Nat} {L : am_L} {S : List Value} {m : am_M} {Q : Option Value → am_M → Prop}
theorem am_q_aastore (hc : am_code mi pc = some (.aastore, l)) (h : am_st Y mi mc ms pc L S m (am_kW Y mi Q) (am_cW Y) Q (.aastore) l) : am_WP Y mi mc ms pc L S m Q := by
  have hg := am_g_e h
  clear h
  obtain ⟨hb, h⟩ := hg
  obtain rfl := am_beq hb
  obtain ⟨o, r0, e0, g0⟩ := am_o1_e h
  obtain ⟨i, r1, e1, g1⟩ := am_i1_e g0
  obtain ⟨a, r, e2, cd, n, hka, hcd, h3, hin, hY, g2⟩ := am_r1_e g1
  clear h g0 g1
  subst e2
  subst e1
  subst e0
  have hcd2 : ∃ (C : String) (ci t0 : Nat), ci < 12 ∧ am_cn ci = C ∧ (cd = 23 ∨ cd = 24) ∧ (∀ b, o = some b → am_k Y m b = (ci, 0) ∧ Nat.ble 3 b = true) ∧ ∀ E, (am_tys E)[t0]? = some (E.2.2.2.2 cd, .object C) := by
    rcases hcd with ⟨rfl, q⟩ | ⟨rfl, q⟩
    · exact ⟨RX1, 1, 3, by omega, rfl, Or.inl rfl, q, fun _ => rfl⟩
    · exact ⟨RX6, 6, 4, by omega, rfl, Or.inr rfl, q, fun _ => rfl⟩
  obtain ⟨C, ci, t0, hci, hCn, hcd3, hob, hty⟩ := hcd2
  have har : ∀ (E : am_E) (m1 : am_M), am_ar E Y m1 cd a = .inr (.inr (.inr (.inr (fun j => (am_gR Y m1 a j).map (am_ad E))))) := by
    rcases hcd3 with rfl | rfl <;> intro E m1 <;> rfl
  intro E p la e R s mth args below meth c Z d0 H locs cells slots ls hC hZ hd hR hS hl h1 h2
  have hK : va_K (am_D E) vwCl (am_tys E) (s.setDrawn d0) := hC.2.2.2.2.2.2.2.2.1.2.1
  have h3' := Nat.le_of_ble_eq_true h3
  have hat := hR.cell hka (by omega) h3
  rw [am_ce_a hka (by omega), har] at hat
  have fin : ∀ (H1 : Heap), H1[am_ad E a]? = some ((arrV (E.2.2.2.2 cd) n (fun j => va_rf ((am_gR Y m a j).map (am_ad E)))).setSlot i.toNatClampNeg (va_rf (o.map (am_ad E)))) → va_at (am_D E) vwCl (am_ad E a, am_ce E Y (am_pR m a i.toNatClampNeg o) a) H1 := by
    intro H1 ec
    rw [am_ce_a (show am_k Y (am_pR m a i.toNatClampNeg o) a = (cd, n) from hka) (by omega), har]
    show H1[am_ad E a]? = some (vp_cell _ _)
    rw [ec, vp_cell_q, arrV_store]
    congr 2
    funext q
    rw [am_gR_pR hY]
    by_cases hq : q = i.toNatClampNeg
    · subst hq
      simp [updV]
    · simp [updV, hq]
  cases o with
  | none =>
    refine va_WaastN (C := C) (j := i) hC.1 hC.2.1 (a := am_ad E a) hat ((hK.2 t0 _ (hty E)).1 n (fun j => va_rf ((am_gR Y m a j).map (am_ad E)))) (fun q => by cases q) (by show ¬ (i < 0 ∨ (arrV _ _ _).slots.size ≤ _); rw [arrV_size]; exact hin) rfl rfl (am_dc hC hc) fun H1 ec z oq => ?_
    exact g2 E p la e R s mth args below meth c Z d0 H1 _ cells slots ls hC hZ hd (hR.pR h3' hY (fin H1 ec) z oq) (am_va_S hS h3' z oq) hl h1 h2
  | some b =>
    obtain ⟨hkb, hb3⟩ := hob b rfl
    have hatb := hR.cell hkb (by omega) hb3
    rw [am_ce_o hkb hci] at hatb
    obtain ⟨r', hr', cellV, g1, g2v, g3, -⟩ := hatb
    obtain ⟨c1, c2, c3⟩ := am_CL_e hci
    have hcls := (hK.1 ci _ c1).2
    obtain ⟨kA, comp, k1, k2, k3, -⟩ := (hK.2 t0 _ (hty E)).2
    rw [← hCn] at k3
    have hcomp : comp = (am_D E).1 ci := Option.some.inj (k3.symm.trans hcls.1)
    subst hcomp
    obtain ⟨kC, hkC, -⟩ := hcls.2
    have hlt : i.toNatClampNeg < n := Nat.not_le.mp fun q => hin (Or.inr q)
    have hi0 : ¬ i < 0 := fun q => hin (Or.inl q)
    refine W.aast (j := i) (v := am_ad E b) hC.1 hC.2.1 (a := am_ad E a) hat (fun q h => by cases h) (fun h => by cases h) k1 k2 rfl hkC ⟨hi0, by show _ < (arrV _ _ _).slots.size; rw [arrV_size]; exact hlt⟩ g1 (fun q h => by rw [g3] at h; cases h) (by rw [g2v]; exact hkC) (by rw [g2v]; exact va_assign hcls) rfl rfl (am_dc hC hc) fun H1 ec z oq => ?_
    exact g2 E p la e R s mth args below meth c Z d0 H1 _ cells slots ls hC hZ hd (hR.pR h3' hY (fin H1 ec) z oq) (am_va_S hS h3' z oq) hl h1 h2
theorem am_q_new {idx : Nat} (hc : am_code mi pc = some (.new idx, l)) (h : am_st Y mi mc ms pc L S m (am_kW Y mi Q) (am_cW Y) Q (.new idx) l) : am_WP Y mi mc ms pc L S m Q := by
  have hg := am_g_e h
  clear h
  obtain ⟨hb, h⟩ := hg
  obtain rfl := am_beq hb
  cases hk : am_lk (am_NT (am_cls mi)) idx with
  | none => rw [hk] at h; exact h.elim
  | some q =>
    obtain ⟨ci, nf, p1, p2, p3⟩ := q
    rw [hk] at h
    obtain ⟨mc', ms', emc, ems, hY1, hY2, g2⟩ := h
    have hck := am_NT_e (am_cls_lt (am_mi hc)) hk
    unfold am_ckN at hck
    obtain ⟨u1, hck⟩ := Bool.and_eq_true_iff.mp hck
    obtain ⟨u2, hck⟩ := Bool.and_eq_true_iff.mp hck
    obtain ⟨u3, hck⟩ := Bool.and_eq_true_iff.mp hck
    obtain ⟨u4, u5⟩ := Bool.and_eq_true_iff.mp hck
    have hci : ci < 12 := Nat.le_of_ble_eq_true u1
    have hnf : nf = am_nf ci := am_beq u2
    obtain ⟨c1, c2, c3⟩ := am_CL_e hci
    have hvn : (am_vw ci).1 = am_cn ci := by
      have := am_vw_e hci
      rw [c1] at this
      rw [← Option.some.inj this]
    intro E p la e R s mth args below meth c Z d0 H locs cells slots ls hC hZ hd hR hS hl h1 h2
    have hts := dr_words hC.2.2.2.2.1 d0
    have hK : va_K (am_D E) vwCl (am_tys E) (s.setDrawn d0) := hC.2.2.2.2.2.2.2.2.1.2.1
    have hKn := hK.1 ci _ c1
    have w1 := am_wd_e u3
    have w2 := am_wd_e u4
    have w3 := am_wd_e u5
    dsimp only at w1 w2 w3
    rw [hvn] at w1 w2 w3
    have hcl : cells + 1 ≤ R.cells := by omega
    have hsl : slots + am_nf ci ≤ R.slots := by omega
    refine W.newcK (s := s.setDrawn d0) (g := F0 mth pc ls (S.map (am_cv E))) hC.1 hC.2.1 hC.2.2.2.1 (hts _ w1) (hts _ w2) (hts _ w3) rfl (am_dc hC hc) hcl hsl hKn.2.1 rfl fun H1 kC hkC ec z1 o1 => ?_
    have key : va_at (am_D E) vwCl (H.size, am_ce E Y (am_al m (ci, 0)) (am_n m + 3)) H1 := by
      rw [am_ce_o (am_al_k hY2) hci]
      refine ⟨_, c1, (u_born (am_ty ci) hts c2 hKn hkC ec (fun j hj => (c3 j hj).2.1)).to (fun j hj => ?_)⟩
      unfold vp_V
      rw [List.getD_eq_getElem?_getD, am_fs_at hj]
      unfold am_fv
      rw [am_al_I, am_al_R hY1]
      rcases (c3 j hj).2.2 with ⟨t1, t2, t3⟩ | ⟨t1, t2, t3⟩ | ⟨t1, t2⟩
      · rw [t1, t2]; rfl
      · rw [t1, t2]; rfl
      · rcases t1 with ⟨nn, t1⟩ | ⟨nn, t1⟩ <;> rw [t1, t2] <;> rfl
    have g3 := g2 E p la e R s mth args below meth c Z d0 H1 locs (cells + 1) (slots + am_nf ci) ls hC hZ hd (hR.al (by show ci ≠ 99; omega) hY1 hY2 key z1 o1) (am_va_S_al hS z1 o1) hl (by omega) (by omega)
    rw [List.map_cons, am_cv_new hR] at g3
    exact g3
theorem am_q_newarray {t : ArrayType} (hc : am_code mi pc = some (.newarray t, l)) (h : am_st Y mi mc ms pc L S m (am_kW Y mi Q) (am_cW Y) Q (.newarray t) l) : am_WP Y mi mc ms pc L S m Q := by
  have hg := am_g_e h
  clear h
  obtain ⟨hb, h⟩ := hg
  obtain rfl := am_beq hb
  obtain ⟨n, r, e1, mc', ms', emc, ems, hY1, hY2, hn0, hn1, g2⟩ := am_i1_e h
  clear h
  subst e1
  have hq : ∃ (cd t0 : Nat) (ty : FieldType), newarray.typeOf t = ty ∧ (cd = 20 ∨ cd = 21 ∨ cd = 22) ∧ (ty = .int ∨ ty = .long ∨ ty = .boolean) ∧ (∀ E, (am_tys E)[t0]? = some (E.2.2.2.2 cd, ty)) ∧ (∀ E, vp_cell (E.2.2.2.2 cd) (n.toNatClampNeg, am_ar E Y (am_al m (cd, n.toNatClampNeg)) cd (am_n m + 3)) = arrV (E.2.2.2.2 cd) n.toNatClampNeg (fun _ => defaultValue ty)) ∧ componentBytes ty ≤ 8 ∧ am_WP Y mi mc' ms' (pc + 2) L (.ref (am_n m + 3) :: r) (am_al m (cd, n.toNatClampNeg)) Q := by
    cases t with
    | int => exact ⟨20, 0, .int, rfl, Or.inl rfl, Or.inl rfl, fun _ => rfl, fun E => by rw [am_ar20, vp_cell_i, am_al_I]; rfl, by decide, g2⟩
    | long => exact ⟨21, 1, .long, rfl, Or.inr (Or.inl rfl), Or.inr (Or.inl rfl), fun _ => rfl, fun E => by rw [am_ar21, vp_cell_l, am_al_J]; rfl, by decide, g2⟩
    | boolean => exact ⟨22, 2, .boolean, rfl, Or.inr (Or.inr rfl), Or.inr (Or.inr rfl), fun _ => rfl, fun E => by rw [am_ar22, vp_cell_i, am_al_I]; rfl, by decide, g2⟩
    | _ => exact g2.elim
  obtain ⟨cd, t0, ty, et, hcd, hty, htys, hcell, hbytes, g3⟩ := hq
  intro E p la e R s mth args below meth c Z d0 H locs cells slots ls hC hZ hd hR hS hl h1 h2
  have hts := dr_words hC.2.2.2.2.1 d0
  have hK : va_K (am_D E) vwCl (am_tys E) (s.setDrawn d0) := hC.2.2.2.2.2.2.2.2.1.2.1
  refine va_newaK hC.1 hC.2.1 (hts _ (by rw [et]; exact am_arc hty)) rfl (am_dc hC hc) rfl hn0 rfl (by rw [et]; calc n.toNatClampNeg * componentBytes ty ≤ 20000 * 8 := Nat.mul_le_mul hn1 hbytes
      _ ≤ 536870912 := by decide) (by omega) (by omega) rfl fun H1 cA ec z1 o1 hAr hNm => ?_
  rw [et] at ec hNm
  have hcA : cA = E.2.2.2.2 cd := by
    have := (hK.2 t0 _ (htys E)).2
    rcases hty with rfl | rfl | rfl <;> exact Option.some.inj (hNm.symm.trans this)
  subst hcA
  have key : va_at (am_D E) vwCl (H.size, am_ce E Y (am_al m (cd, n.toNatClampNeg)) (am_n m + 3)) H1 := by
    rw [am_ce_a (am_al_k hY2) (by omega)]
    show H1[H.size]? = some (vp_cell _ _)
    rw [ec]
    exact congrArg some (hcell E).symm
  have g4 := g3 E p la e R s mth args below meth c Z d0 H1 locs (cells + 1) (slots + n.toNatClampNeg) ls hC hZ hd (hR.al (by show cd ≠ 99; omega) hY1 hY2 key z1 o1) (am_va_S_al hS z1 o1) hl (by omega) (by omega)
  rw [List.map_cons, am_cv_new hR] at g4
  exact g4
theorem am_q_anewarray {idx : Nat} (hc : am_code mi pc = some (.anewarray idx, l)) (h : am_st Y mi mc ms pc L S m (am_kW Y mi Q) (am_cW Y) Q (.anewarray idx) l) : am_WP Y mi mc ms pc L S m Q := by
  have hg := am_g_e h
  clear h
  obtain ⟨hb, h⟩ := hg
  obtain rfl := am_beq hb
  cases hk : am_lk (am_AT (am_cls mi)) idx with
  | none => rw [hk] at h; exact h.elim
  | some q =>
    obtain ⟨cd, p1⟩ := q
    rw [hk] at h
    obtain ⟨n, r, e1, mc', ms', emc, ems, hY1, hY2, hn0, hn1, g2⟩ := am_i1_e h
    clear h
    subst e1
    have hck := am_AT_e (am_cls_lt (am_mi hc)) hk
    have hq : ∃ (C : String) (t0 : Nat), (cd = 23 ∨ cd = 24) ∧ Cond.classLink (am_cn (am_cls mi)) idx C ∈ am_TB ∧ (∀ E, (am_tys E)[t0]? = some (E.2.2.2.2 cd, .object C)) ∧ (∀ E U, am_G E U → va_AO C U) ∧ ∀ E, am_ar E Y (am_al m (cd, n.toNatClampNeg)) cd (am_n m + 3) = .inr (.inr (.inr (.inr (fun _ => none)))) := by
      unfold am_ckA at hck
      dsimp only at hck
      have hal : ∀ E : am_E, (fun j => (am_gR Y (am_al m (cd, n.toNatClampNeg)) (am_n m + 3) j).map (am_ad E)) = fun _ => none := fun E => funext fun j => by rw [am_al_R hY1]; rfl
      match cd, hck, hal with
      | 23, hck, hal => exact ⟨RX1, 3, Or.inl rfl, am_wd_e hck, fun _ => rfl, fun E U h => h.2.2.2.1, fun E => by rw [am_ar23, hal]⟩
      | 24, hck, hal => exact ⟨RX6, 4, Or.inr rfl, am_wd_e hck, fun _ => rfl, fun E U h => h.2.2.2.2, fun E => by rw [am_ar24, hal]⟩
    obtain ⟨C, t0, hcd, hlk, htys, hAO, har⟩ := hq
    intro E p la e R s mth args below meth c Z d0 H locs cells slots ls hC hZ hd hR hS hl h1 h2
    have hts := dr_words hC.2.2.2.2.1 d0
    have hK : va_K (am_D E) vwCl (am_tys E) (s.setDrawn d0) := hC.2.2.2.2.2.2.2.2.1.2.1
    have hao : va_AO C (s.setDrawn d0) := hAO E s hC.2.2.2.2.2.2.2.2.1
    have hcl : cells + 1 ≤ R.cells := by omega
    have hsl : slots + n.toNatClampNeg ≤ R.slots := by omega
    refine W.anew (s := s.setDrawn d0) (g := F0 mth pc ls (.int n :: r.map (am_cv E))) hC.1 hC.2.1 hC.2.2.2.1 (hts _ hlk) (va_AO.use hao) rfl (am_dc hC hc) rfl hn0 (by omega) hcl hsl fun cA kA comp f1 f2 f3 f4 => ?_
    have hcA : cA = E.2.2.2.2 cd := by
      obtain ⟨kA', comp', -, -, -, z4⟩ := (hK.2 t0 _ (htys E)).2
      exact Option.some.inj (f1.symm.trans z4)
    subst hcA
    generalize hH1 : H.push ({ cls := E.2.2.2.2 cd, slots := Array.replicate n.toNatClampNeg .null, vm := .none } : Cell) = H1
    have z1 : H1.size = H.size + 1 := by rw [← hH1, Array.size_push]
    have ec : H1[H.size]? = some (arrV (E.2.2.2.2 cd) n.toNatClampNeg (fun _ => .null)) := by rw [← hH1, Array.getElem?_push_size, ← arrV_new]
    have o1 : ∀ q : Nat, q < H.size → H1[q]? = H[q]? := fun q hq => by rw [← hH1, Array.getElem?_push, if_neg (Nat.ne_of_lt hq)]
    have key : va_at (am_D E) vwCl (H.size, am_ce E Y (am_al m (cd, n.toNatClampNeg)) (am_n m + 3)) H1 := by
      rw [am_ce_a (am_al_k hY2) (by omega), har E]
      show H1[H.size]? = some (vp_cell _ _)
      rw [ec, vp_cell_q]
      rfl
    have g4 := g2 E p la e R s mth args below meth c Z d0 H1 locs (cells + 1) (slots + n.toNatClampNeg) ls hC hZ hd (hR.al (by show cd ≠ 99; omega) hY1 hY2 key z1 o1) (am_va_S_al hS z1 o1) hl (by omega) (by omega)
    rw [List.map_cons, am_cv_new hR] at g4
    exact g4
theorem am_q_getstatic {idx : Nat} (hc : am_code mi pc = some (.getstatic idx, l)) (h : am_st Y mi mc ms pc L S m (am_kW Y mi Q) (am_cW Y) Q (.getstatic idx) l) : am_WP Y mi mc ms pc L S m Q := by
  have hg := am_g_e h
  clear h
  obtain ⟨hb, h⟩ := hg
  obtain rfl := am_beq hb
  cases hk : am_lk (am_ST (am_cls mi)) idx with
  | none => rw [hk] at h; exact h.elim
  | some q =>
    obtain ⟨a, p1⟩ := q
    rw [hk] at h
    have hck := am_ST_e (am_cls_lt (am_mi hc)) hk
    intro E p la e R s mth args below meth c Z d0 H locs cells slots ls hC hZ hd hR hS hl h1 h2
    have hts := dr_words hC.2.2.2.2.1 d0
    have g3 := h E p la e R s mth args below meth c Z d0 H locs cells slots ls hC hZ hd hR hS hl h1 h2
    unfold am_ckS at hck
    dsimp only at hck
    match a, hck, g3 with
    | 0, hck, g3 =>
      obtain ⟨cf, kf, fi, f, a1, cell, z1, z2, z3, z4, z5, z6, z7, z8⟩ := hR.2.2.1.2.1
      exact W.gets (s := s.setDrawn d0) (g := F0 mth pc ls (S.map (am_cv E))) hC.1 hC.2.1 hC.2.2.2.1 (hts _ (am_wd_e hck)) z1 z2 z3 z4 z5 (fun e => by rw [e] at z6; cases z6) z7 rfl (am_dc hC hc) g3
    | 1, hck, g3 =>
      obtain ⟨cf, kf, fi, f, a1, cell, z1, z2, z3, z4, z5, z6, z7, z8⟩ := hR.2.2.1.2.2
      exact W.gets (s := s.setDrawn d0) (g := F0 mth pc ls (S.map (am_cv E))) hC.1 hC.2.1 hC.2.2.2.1 (hts _ (am_wd_e hck)) z1 z2 z3 z4 z5 (fun e => by rw [e] at z6; cases z6) z7 rfl (am_dc hC hc) g3
end ALC
