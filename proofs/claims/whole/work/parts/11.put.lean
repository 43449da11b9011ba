/-! ===== writes ===== -/
theorem am_u_ne {α : Type} {f : Nat → Nat → α} {a j x : Nat} {v : α} (h : x ≠ a) : am_u f a j v x = f x := by
  funext y
  unfold am_u
  rw [if_neg (fun q => h q.1)]
theorem am_u_at {α : Type} {f : Nat → Nat → α} {a j y : Nat} {v : α} : am_u f a j v a y = if y = j then v else f a y := by
  unfold am_u
  by_cases h : y = j
  · rw [if_pos ⟨rfl, h⟩, if_pos h]
  · rw [if_neg (fun q => h q.2), if_neg h]
theorem am_ce_congr {E : am_E} {Y : am_Y} {m m1 : am_M} {x : Nat} (hk : am_k Y m1 x = am_k Y m x) (hI : m1.1 x = m.1 x) (hJ : m1.2.1 x = m.2.1 x) (hG : ∀ j, am_gR Y m1 x j = am_gR Y m x j) : am_ce E Y m1 x = am_ce E Y m x := by
  have hG' : am_gR Y m1 x = am_gR Y m x := funext hG
  unfold am_ce am_fs am_ar am_fv
  simp only [hk, hI, hJ, hG']
theorem am_gR_pR {Y : am_Y} {m : am_M} {a k x j : Nat} {o : Option Nat} (hY : Y.1 a k = none) : am_gR Y (am_pR m a k o) x j = if x = a ∧ j = k then o else am_gR Y m x j := by
  unfold am_gR am_pR
  by_cases h : x = a ∧ j = k
  · obtain ⟨rfl, rfl⟩ := h
    rw [hY]
    simp [am_u]
  · rw [if_neg h]
    cases Y.1 x j with
    | some b => rfl
    | none => simp [am_u, h]
theorem am_fs_pI {E : am_E} {Y : am_Y} {m : am_M} {ci a k : Nat} {x : Int32} (hk : k < am_nf ci) (hi : am_isr ci k = false) : am_fs E Y (am_pI m a k x) ci a = (am_fs E Y m ci a).set k (.int x) := by
  apply List.ext_getElem?
  intro j
  by_cases hj : j < am_nf ci
  · rw [am_fs_at hj]
    by_cases e0 : j = k
    · subst e0
      rw [List.getElem?_set_self (by unfold am_fs; simp; exact hj)]
      unfold am_fv
      rw [hi]
      show some (Value.int (am_u m.1 a j x a j)) = _
      rw [am_u_at, if_pos rfl]
    · rw [List.getElem?_set_ne (Ne.symm e0), am_fs_at hj]
      unfold am_fv
      show some (cond (am_isr ci j) (va_rf ((am_gR Y m a j).map (am_ad E))) (.int (am_u m.1 a k x a j))) = _
      rw [am_u_at, if_neg e0]
  · rw [List.getElem?_eq_none (by unfold am_fs; simp; omega), List.getElem?_eq_none (by unfold am_fs; simp; omega)]
theorem am_fs_pR {E : am_E} {Y : am_Y} {m : am_M} {ci a k : Nat} {o : Option Nat} (hk : k < am_nf ci) (hi : am_isr ci k = true) (hY : Y.1 a k = none) : am_fs E Y (am_pR m a k o) ci a = (am_fs E Y m ci a).set k (va_rf (o.map (am_ad E))) := by
  apply List.ext_getElem?
  intro j
  by_cases hj : j < am_nf ci
  · rw [am_fs_at hj]
    by_cases e0 : j = k
    · subst e0
      rw [List.getElem?_set_self (by unfold am_fs; simp; exact hj)]
      unfold am_fv
      rw [hi, am_gR_pR hY, if_pos ⟨rfl, rfl⟩]
      rfl
    · rw [List.getElem?_set_ne (Ne.symm e0), am_fs_at hj]
      unfold am_fv
      rw [am_gR_pR hY, if_neg (fun q => e0 q.2)]
      rfl
  · rw [List.getElem?_eq_none (by unfold am_fs; simp; omega), List.getElem?_eq_none (by unfold am_fs; simp; omega)]
theorem am_Rel.pI {E : am_E} {Y : am_Y} {m : am_M} {U : State} {H H1 : Heap} {a j : Nat} {x : Int32} (hR : am_Rel E Y m U H) (h3 : 3 ≤ a) (hc : va_at (am_D E) vwCl (am_ad E a, am_ce E Y (am_pI m a j x) a) H1) (hz : H1.size = H.size) (ho : ∀ q : Nat, q ≠ am_ad E a → H1[q]? = H[q]?) : am_Rel E Y (am_pI m a j x) U H1 :=
  hR.put h3 rfl (fun _ => rfl) (fun y hy => am_ce_congr rfl (am_u_ne hy) rfl (fun _ => rfl)) (fun y hy => am_u_ne (by omega)) hc hz ho
theorem am_Rel.pJ {E : am_E} {Y : am_Y} {m : am_M} {U : State} {H H1 : Heap} {a j : Nat} {x : Int64} (hR : am_Rel E Y m U H) (h3 : 3 ≤ a) (hc : va_at (am_D E) vwCl (am_ad E a, am_ce E Y (am_pJ m a j x) a) H1) (hz : H1.size = H.size) (ho : ∀ q : Nat, q ≠ am_ad E a → H1[q]? = H[q]?) : am_Rel E Y (am_pJ m a j x) U H1 :=
  hR.put h3 rfl (fun _ => rfl) (fun y hy => am_ce_congr rfl rfl (am_u_ne hy) (fun _ => rfl)) (fun y hy => rfl) hc hz ho
theorem am_Rel.pR {E : am_E} {Y : am_Y} {m : am_M} {U : State} {H H1 : Heap} {a j : Nat} {o : Option Nat} (hR : am_Rel E Y m U H) (h3 : 3 ≤ a) (hY : Y.1 a j = none) (hc : va_at (am_D E) vwCl (am_ad E a, am_ce E Y (am_pR m a j o) a) H1) (hz : H1.size = H.size) (ho : ∀ q : Nat, q ≠ am_ad E a → H1[q]? = H[q]?) : am_Rel E Y (am_pR m a j o) U H1 :=
  hR.put h3 rfl (fun _ => rfl) (fun y hy => am_ce_congr rfl rfl rfl (fun q => by rw [am_gR_pR hY, if_neg (fun z => hy z.1)])) (fun y hy => rfl) hc hz ho
/-- putfield, final or not -/
theorem am_vput {E : am_E} {mi : Nat} {p : Program} {la : Launch} {e : Env} {R : Room} {s : State} {mth : MethodId} {args : Array Value} {below : List Frame} {meth : Method} {c : Code} {H : Heap} {locs : List Loc} {cells slots : Nat} {Z : State → Prop} {d0 : Drawn} {ls : Array Slot} {rest fs : List Value} {v : Value} {ci k idx pc A0 : Nat}
    (hC : am_C E mi p R s mth args meth c) (hci : ci < 12) (hk : k < am_nf ci) (hlink : Cond.fieldLink (am_cn (am_cls mi)) idx (am_T ci k).1 (am_T ci k).2.1 (am_T ci k).2.2.1 ∈ am_TB) (hfw : am_wf mi ci k = true) (hat : va_at (am_D E) vwCl (A0, .inr (ci, fs)) H) (hn : narrow (am_ty ci k) v = v) (hfit : fits (am_ty ci k) v = true) (hlen : k < fs.length)
    (hdg : decode (am_bytes mi) pc = .ok (.putfield idx, 3))
    (kk : ∀ (H1 : Heap) (sl : Nat), va_at (am_D E) vwCl (A0, .inr (ci, fs.set k v)) H1 → H1.size = H.size → (∀ q : Nat, q ≠ A0 → H1[q]? = H[q]?) → W p la e R (s.setDrawn d0) mth args below meth c H1 (locs ++ [⟨A0, sl⟩]) cells slots Z (F0 mth (pc + 3) ls rest)) :
    W p la e R (s.setDrawn d0) mth args below meth c H locs cells slots Z (F0 mth pc ls (v :: .ref A0 :: rest)) := by
  obtain ⟨c1, c2, c3⟩ := am_CL_e hci
  have hts := dr_words hC.2.2.2.2.1 d0
  have hK : va_K (am_D E) vwCl (am_tys E) (s.setDrawn d0) := hC.2.2.2.2.2.2.2.2.1.2.1
  have hown : (s.setDrawn d0).vm.findClass (am_cn (am_cls mi)) = some mth.cls := hC.2.2.2.1
  have hap := va_apart (own := am_cn ci) hts c2 (am_ty ci) (fun j hj => (c3 j hj).2.1) (am_nm_e hci) hK c1
  obtain ⟨r, g1, cell, q1, q2, q3, q4⟩ := hat
  have hr : r = (am_cn ci, am_T ci, am_nf ci) := Option.some.inj (g1.symm.trans c1)
  subst hr
  obtain ⟨hSl, hfc, kC, hkC, hkind⟩ := hK.1 ci _ c1
  obtain ⟨cf, kf, fi, f, hi, hsl⟩ := hSl k hk
  have hlay := hts _ (c2 _ (u_in_lay hk))
  have hst := (u_facts hfc hkC (u_lays hts c2 hk) hi).1
  have hd := (c3 k hk).2.1
  unfold u_lay at hlay
  cases hfin : (am_T ci k).2.2.2 with
  | false =>
    rw [if_neg (by rw [hfin]; decide)] at hlay
    have h6 := u_store hfc hkC hkind hlay hi hd hn hfit
    refine W.putK hC.1 hC.2.1 (f := f) ⟨hown, hts _ hlink, ⟨_, _, _, hi⟩, hst⟩ (by rw [q2]; exact h6) q1 q3 (by rw [hsl]; exact k2_hasslot (q4 k hk)) rfl rfl hdg fun H1 e1 e2 e3 => ?_
    rw [hsl] at e1 ⊢
    exact kk H1 _ ⟨_, c1, t_OB.to (V := updV (vp_V fs) k v) ⟨_, e1, q2, q3, t_set q4 hap hk v⟩ (fun j _ => vp_updV_set hlen v j)⟩ e2 e3
  | true =>
    rw [if_pos hfin] at hlay
    unfold am_wf at hfw
    rw [(c3 k hk).1, hfin] at hfw
    obtain ⟨w1, w2⟩ := Bool.and_eq_true_iff.mp hfw
    have w2 := am_beq w2
    have hcf : mth.cls = cf := by
      obtain ⟨_, _, c', _, _, _, -, -, hf', -, -, -, hown2, -⟩ := Cond.laysFinal_spec hlay
      have e1 : c' = cf := by have := hi.symm.trans hf'; simp at this; exact this.1.symm
      rw [am_own_e hci hk, ← w2] at hown2
      rw [← e1]; exact Option.some.inj (hown.symm.trans hown2)
    have h6 := u_fits hfc hkC hkind (Or.inr hlay) hi hd hn hfit
    refine W.putFinK hC.1 hC.2.1 hown (hts _ hlink) hi hst hcf (hC.2.2.2.2.2.1 w1) (by rw [q2]; exact h6) q1 q3 (by rw [hsl]; exact k2_hasslot (q4 k hk)) rfl rfl hdg fun H1 e1 e2 e3 => ?_
    rw [hsl] at e1 ⊢
    exact kk H1 _ ⟨_, c1, t_OB.to (V := updV (vp_V fs) k v) ⟨_, e1, q2, q3, t_set q4 hap hk v⟩ (fun j _ => vp_updV_set hlen v j)⟩ e2 e3
theorem am_fs_len {E : am_E} {Y : am_Y} {m : am_M} {ci a : Nat} : (am_fs E Y m ci a).length = am_nf ci := by unfold am_fs; simp
theorem am_nar01 {x : Int32} (h : x = 0 ∨ x = 1) : narrow .boolean (.int x) = .int x ∧ fits .boolean (.int x) = true := by rcases h with rfl | rfl <;> exact ⟨by decide, by decide⟩
section PUT
variable {Y : am_Y} {mi mc ms pc l : Nat} {L : am_L} {S : List Value} {m : am_M} {Q : Option Value → am_M → Prop}
theorem am_q_putfield {idx : Nat} (hc : am_code mi pc = some (.putfield idx, l)) (h : am_st Y mi mc ms pc L S m (am_kW Y mi Q) (am_cW Y) Q (.putfield idx) l) : am_WP Y mi mc ms pc L S m Q := by
  have hg := am_g_e h
  clear h
  obtain ⟨hb, h⟩ := hg
  obtain rfl := am_beq hb
  cases hk : am_lk (am_FT (am_cls mi)) idx with
  | none => rw [hk] at h; exact h.elim
  | some q =>
    obtain ⟨ci, k, pp⟩ := q
    rw [hk] at h
    have h : am_pf Y mi mc ms pc L S m (am_kW Y mi Q) ci k := h
    obtain ⟨hci, hkn, hlink⟩ := am_FT_e (am_cls_lt (am_mi hc)) hk
    obtain ⟨c1, c2, c3⟩ := am_CL_e hci
    unfold am_pf at h
    cases hi : am_isr ci k with
    | false =>
      rw [hi] at h
      obtain ⟨x, r1, e1, g1⟩ := am_i1_e h
      obtain ⟨a, r, e2, hka, h3, hfw, g2⟩ := am_r1_e g1
      clear h g1
      subst e2
      subst e1
      have hbz : (am_ty ci k = .int ∨ (am_ty ci k = .boolean ∧ (x = 0 ∨ x = 1))) ∧ am_WP Y mi mc ms (pc + 3) L r (am_pI m a k x) Q := by
        unfold am_bz at g2
        rcases (c3 k hkn).2.2 with ⟨t1, t2, t3⟩ | ⟨t1, t2, t3⟩ | ⟨t1, t2⟩
        · rw [t3] at g2
          exact ⟨Or.inl t1, g2⟩
        · rw [t3] at g2
          exact ⟨Or.inr ⟨t1, g2.1⟩, g2.2⟩
        · rw [hi] at t2; cases t2
      obtain ⟨hty, g3⟩ := hbz
      have hnf : narrow (am_ty ci k) (.int x) = .int x ∧ fits (am_ty ci k) (.int x) = true := by
        rcases hty with t | ⟨t, hx⟩
        · rw [t]; exact ⟨rfl, rfl⟩
        · rw [t]; exact am_nar01 hx
      intro E p la e R s mth args below meth c Z d0 H locs cells slots ls hC hZ hd hR hS hl h1 h2
      have h3' := Nat.le_of_ble_eq_true h3
      have hat := hR.cell hka (by omega) h3
      rw [am_ce_o hka hci] at hat
      refine am_vput hC hci hkn hlink hfw hat hnf.1 hnf.2 (by rw [am_fs_len]; exact hkn) (am_dc hC hc) (fun H1 sl hat1 hz ho => ?_)
      refine g3 E p la e R s mth args below meth c Z d0 H1 _ cells slots ls hC hZ hd (hR.pI h3' ?_ hz ho) (am_va_S hS h3' hz ho) hl h1 h2
      rw [am_ce_o (ci := ci) (show am_k Y (am_pI m a k x) a = (ci, 0) from hka) hci, am_fs_pI hkn hi]
      exact hat1
    | true =>
      rw [hi] at h
      rw [cond_true] at h
      obtain ⟨o, r1, e1, g1⟩ := am_o1_e h
      obtain ⟨a, r, e2, hka, h3, hfw, hY, g3⟩ := am_r1_e g1
      clear h g1
      subst e2
      subst e1
      have hnf : narrow (am_ty ci k) (va_rf (o.map (fun q => q))) = va_rf (o.map (fun q => q)) ∧ ∀ f : Nat → Nat, narrow (am_ty ci k) (va_rf (o.map f)) = va_rf (o.map f) ∧ fits (am_ty ci k) (va_rf (o.map f)) = true := by
        rcases (c3 k hkn).2.2 with ⟨t1, t2, t3⟩ | ⟨t1, t2, t3⟩ | ⟨t1, t2⟩
        · rw [hi] at t2; cases t2
        · rw [hi] at t2; cases t2
        · rcases t1 with ⟨nn, t1⟩ | ⟨nn, t1⟩ <;> rw [t1] <;> cases o <;> exact ⟨rfl, fun _ => ⟨rfl, rfl⟩⟩
      intro E p la e R s mth args below meth c Z d0 H locs cells slots ls hC hZ hd hR hS hl h1 h2
      have h3' := Nat.le_of_ble_eq_true h3
      have hat := hR.cell hka (by omega) h3
      rw [am_ce_o hka hci] at hat
      rw [List.map_cons, am_cv_rf]
      refine am_vput hC hci hkn hlink hfw hat (hnf.2 _).1 (hnf.2 _).2 (by rw [am_fs_len]; exact hkn) (am_dc hC hc) (fun H1 sl hat1 hz ho => ?_)
      refine g3 E p la e R s mth args below meth c Z d0 H1 _ cells slots ls hC hZ hd (hR.pR h3' hY ?_ hz ho) (am_va_S hS h3' hz ho) hl h1 h2
      rw [am_ce_o (ci := ci) (show am_k Y (am_pR m a k o) a = (ci, 0) from hka) hci, am_fs_pR hkn hi hY]
      exact hat1
end PUT
