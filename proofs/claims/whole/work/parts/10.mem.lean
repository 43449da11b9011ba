/-! ===== fields and arrays ===== -/
theorem am_vw_e {ci : Nat} (h : ci < 12) : vwCl[ci]? = some (am_vw ci) := by
  have h1 := List.getElem?_eq_getElem (l := vwCl) h
  unfold am_vw
  rw [List.getD_eq_getElem?_getD, h1]
  rfl
def am_ty (ci k : Nat) : FieldType := (parseFieldDescriptor (am_T ci k).2.2.1).getD .int
theorem am_nm_ok : (List.range 12).all (fun ci => (List.range (am_nf ci)).all (fun a => (List.range (am_nf ci)).all (fun b => decide (a = b) || decide ((am_T ci a).2.1 ≠ (am_T ci b).2.1)))) = true := by decide +kernel
theorem am_own_ok : (List.range 12).all (fun ci => (List.range (am_nf ci)).all (fun a => decide ((am_T ci a).1 = am_cn ci))) = true := by decide +kernel
theorem am_nm_e {ci : Nat} (h : ci < 12) : ∀ a, a < am_nf ci → ∀ b, b < am_nf ci → a ≠ b → (am_T ci a).2.1 ≠ (am_T ci b).2.1 := by
  intro a ha b hb hne
  have h1 := List.all_eq_true.mp (List.all_eq_true.mp (List.all_eq_true.mp am_nm_ok ci (List.mem_range.mpr h)) a (List.mem_range.mpr ha)) b (List.mem_range.mpr hb)
  rcases Bool.or_eq_true_iff.mp h1 with g | g
  · exact absurd (of_decide_eq_true g) hne
  · exact of_decide_eq_true g
theorem am_own_e {ci k : Nat} (h : ci < 12) (hk : k < am_nf ci) : (am_T ci k).1 = am_cn ci :=
  of_decide_eq_true (List.all_eq_true.mp (List.all_eq_true.mp am_own_ok ci (List.mem_range.mpr h)) k (List.mem_range.mpr hk))
/-- what the check of a class says -/
theorem am_CL_e {ci : Nat} (h : ci < 12) : vwCl[ci]? = some (am_cn ci, am_T ci, am_nf ci) ∧ (∀ w0 ∈ u_ws (am_cn ci) (am_T ci) (am_nf ci), w0 ∈ am_TB) ∧
    ∀ k, k < am_nf ci → am_fin ci k = (am_T ci k).2.2.2 ∧ parseFieldDescriptor (am_T ci k).2.2.1 = some (am_ty ci k) ∧ ((am_ty ci k = .int ∧ am_isr ci k = false ∧ am_isb ci k = false) ∨ (am_ty ci k = .boolean ∧ am_isr ci k = false ∧ am_isb ci k = true) ∨ (((∃ n, am_ty ci k = .object n) ∨ ∃ t, am_ty ci k = .array t) ∧ am_isr ci k = true)) := by
  have h1 := List.all_eq_true.mp am_CL_ok ci (List.mem_range.mpr h)
  unfold am_ckC at h1
  obtain ⟨g1, h1⟩ := Bool.and_eq_true_iff.mp h1
  obtain ⟨g2, g3⟩ := Bool.and_eq_true_iff.mp h1
  have e1 : (am_vw ci).2.2 = am_nf ci := of_decide_eq_true g1
  have e3 : am_cn ci = (am_vw ci).1 := of_decide_eq_true g3
  have key : ∀ k, k < am_nf ci → am_fin ci k = (am_T ci k).2.2.2 ∧ u_lay (am_vw ci).1 (am_T ci) k ∈ am_TB ∧ parseFieldDescriptor (am_T ci k).2.2.1 = some (am_ty ci k) ∧ ((am_ty ci k = .int ∧ am_isr ci k = false ∧ am_isb ci k = false) ∨ (am_ty ci k = .boolean ∧ am_isr ci k = false ∧ am_isb ci k = true) ∨ (((∃ n, am_ty ci k = .object n) ∨ ∃ t, am_ty ci k = .array t) ∧ am_isr ci k = true)) := by
    intro k hk
    have h2 := List.all_eq_true.mp g2 k (List.mem_range.mpr hk)
    obtain ⟨a1, h2⟩ := Bool.and_eq_true_iff.mp h2
    obtain ⟨a2, a3⟩ := Bool.and_eq_true_iff.mp h2
    refine ⟨of_decide_eq_true a1, am_wd_e a2, ?_⟩
    unfold am_ty
    cases hp : parseFieldDescriptor (am_T ci k).2.2.1 with
    | none => rw [hp] at a3; cases a3
    | some ty =>
      rw [hp] at a3
      refine ⟨rfl, ?_⟩
      cases ty <;> first | (cases a3; done) | skip
      all_goals simp at a3 ⊢
      all_goals first | exact a3 | simp [a3]
  refine ⟨?_, ?_, fun k hk => ⟨(key k hk).1, (key k hk).2.2⟩⟩
  · rw [am_vw_e h, e3, ← e1]
    rfl
  · intro w0 hw
    obtain ⟨k, hk, rfl⟩ := List.mem_map.mp hw
    have := (key k (List.mem_range.mp hk)).2.1
    rw [e3]
    exact this
theorem am_ad_own {E : am_E} {a : Nat} (h : 3 ≤ a) : am_ad E a = E.1 + (a - 3) := by
  unfold am_ad
  rw [if_neg (by omega)]
theorem am_ad_inj {E : am_E} {a b : Nat} (ha : 3 ≤ a) (hb : 3 ≤ b) (h : am_ad E a = am_ad E b) : a = b := by
  rw [am_ad_own ha, am_ad_own hb] at h
  omega
theorem am_ce_o {E : am_E} {Y : am_Y} {m : am_M} {a ci : Nat} (h : am_k Y m a = (ci, 0)) (hci : ci < 12) : am_ce E Y m a = .inr (ci, am_fs E Y m ci a) := by
  unfold am_ce
  rw [h, if_pos hci]
theorem am_ce_a {E : am_E} {Y : am_Y} {m : am_M} {a c n : Nat} (h : am_k Y m a = (c, n)) (hc : ¬ c < 12) : am_ce E Y m a = .inl (E.2.2.2.2 c, n, am_ar E Y m c a) := by
  unfold am_ce
  rw [h, if_neg hc]
theorem am_fs_at {E : am_E} {Y : am_Y} {m : am_M} {ci a k : Nat} (h : k < am_nf ci) : (am_fs E Y m ci a)[k]? = some (am_fv E Y m ci a k) := by
  unfold am_fs
  rw [List.getElem?_map, List.getElem?_range h]
  rfl
theorem am_Rel.lt {E : am_E} {Y : am_Y} {m : am_M} {U : State} {H : Heap} (hR : am_Rel E Y m U H) {a c n : Nat} (hk : am_k Y m a = (c, n)) (hc : c ≠ 99) : a < am_n m + 3 := by
  rcases Nat.lt_or_ge a (am_n m + 3) with h | h
  · exact h
  · have := hR.2.2.2 a h
    rw [hk] at this
    exact absurd this hc
theorem am_Rel.cell {E : am_E} {Y : am_Y} {m : am_M} {U : State} {H : Heap} (hR : am_Rel E Y m U H) {a c n : Nat} (hk : am_k Y m a = (c, n)) (hc : c ≠ 99) (h3 : Nat.ble 3 a = true) : va_at (am_D E) vwCl (am_ad E a, am_ce E Y m a) H := hR.2.1 a (Nat.le_of_ble_eq_true h3) (hR.lt hk hc)
theorem am_P1 {D : va_G} {cl : List vw_C} {q : Nat × va_E} {H : Heap} (h : va_at D cl q H) : va_P D cl [q] H := by
  intro k q' hk
  have hz : k < 1 := (List.getElem?_eq_some_iff.mp hk).1
  rw [show k = 0 by omega] at hk
  cases hk
  exact h
/-- a write of one cell -/
theorem am_Rel.put {E : am_E} {Y : am_Y} {m m1 : am_M} {U : State} {H H1 : Heap} {a : Nat} (hR : am_Rel E Y m U H) (h3 : 3 ≤ a) (hn : am_n m1 = am_n m) (hk : ∀ x, am_k Y m1 x = am_k Y m x) (hce : ∀ x, x ≠ a → am_ce E Y m1 x = am_ce E Y m x) (hI : ∀ x, x < 3 → m1.1 x = m.1 x)
    (hc : va_at (am_D E) vwCl (am_ad E a, am_ce E Y m1 a) H1) (hz : H1.size = H.size) (ho : ∀ q : Nat, q ≠ am_ad E a → H1[q]? = H[q]?) : am_Rel E Y m1 U H1 := by
  have hlow : ∀ q : Nat, q < E.1 → H1[q]? = H[q]? := fun q hq => ho q (by rw [am_ad_own h3]; omega)
  refine ⟨by rw [hz, hn]; exact hR.1, fun x hx hlt => ?_, ⟨fun x hx => ?_, ?_, ?_⟩, fun x hx => by rw [hk x]; exact hR.2.2.2 x (by rw [hn] at hx; exact hx)⟩
  · by_cases e0 : x = a
    · subst e0
      exact hc
    · rw [hce x e0]
      refine (hR.2.1 x hx (by rw [← hn]; exact hlt)).kept (ho _ (fun q => e0 (am_ad_inj hx h3 q)))
  · obtain ⟨cell, n, g1, g2, g3, g4, g5, g6, g7, g8⟩ := hR.2.2.1.1 x hx
    exact ⟨cell, n, by rw [hk]; exact g1, by rw [hlow _ g8]; exact g2, g3, g4, g5, g6, fun j hj => by rw [hI x hx]; exact g7 j hj, g8⟩
  · exact hR.2.2.1.2.1.kept (fun q _ hA => hlow q (Nat.not_le.mp hA))
  · exact hR.2.2.1.2.2.kept (fun q _ hA => hlow q (Nat.not_le.mp hA))
theorem am_va_S {E : am_E} {H0 H H1 : Heap} {locs : List Loc} {a k : Nat} (hS : va_S (am_A E) H0 H locs) (h3 : 3 ≤ a) (z : H1.size = H.size) (o : ∀ q : Nat, q ≠ am_ad E a → H1[q]? = H[q]?) : va_S (am_A E) H0 H1 (locs ++ [⟨am_ad E a, k⟩]) := hS.put z o (show E.1 ≤ am_ad E a by rw [am_ad_own h3]; omega)
section MEM
variable {Y : am_Y} {mi mc ms pc l : Nat} {L : am_L} {S : List Value} {m : am_M} {Q : Option Value → am_M → Prop}
theorem am_q_getfield {idx : Nat} (hc : am_code mi pc = some (.getfield idx, l)) (h : am_st Y mi mc ms pc L S m (am_kW Y mi Q) (am_cW Y) Q (.getfield idx) l) : am_WP Y mi mc ms pc L S m Q := by
  have hg := am_g_e h
  clear h
  obtain ⟨hb, h⟩ := hg
  obtain rfl := am_beq hb
  cases hk : am_lk (am_FT (am_cls mi)) idx with
  | none => rw [hk] at h; exact h.elim
  | some q =>
    obtain ⟨ci, k, pp⟩ := q
    rw [hk] at h
    obtain ⟨a, r, rfl, hka, h3, h⟩ := am_r1_e h
    obtain ⟨hci, hkn, hlink⟩ := am_FT_e (am_cls_lt (am_mi hc)) hk
    obtain ⟨c1, c2, c3⟩ := am_CL_e hci
    intro E p la e R s mth args below meth c Z d0 H locs cells slots ls hC hZ hd hR hS hl h1 h2
    have hat := hR.cell hka (by omega) h3
    rw [am_ce_o hka hci] at hat
    refine va_get hC.1 hC.2.1 (dr_words hC.2.2.2.2.1 d0) c2 hC.2.2.2.1 (D := am_D E) (cl := vwCl) (tys := am_tys E) hC.2.2.2.2.2.2.2.2.1.2.1 (am_P1 hat) 0 rfl c1 k hkn (am_ht hC d0 hlink) (fun x hx => hx) (am_fs_at hkn) (am_dc hC hc) ?_
    cases hi : am_isr ci k with
    | false =>
      rw [hi] at h
      have e0 : am_fv E Y m ci a k = .int (m.1 a k) := by unfold am_fv; rw [hi]; rfl
      rw [e0]
      exact h E p la e R s mth args below meth c Z d0 H locs cells slots ls hC hZ hd hR hS hl h1 h2
    | true =>
      rw [hi] at h
      obtain ⟨o, ho, h⟩ := h
      have e0 : am_fv E Y m ci a k = am_cv E (va_rf o) := by unfold am_fv; rw [hi, ho, am_cv_rf]; rfl
      rw [e0]
      exact h E p la e R s mth args below meth c Z d0 H locs cells slots ls hC hZ hd hR hS hl h1 h2
end MEM
