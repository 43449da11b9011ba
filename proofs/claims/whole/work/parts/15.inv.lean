/-! ===== the call instructions ===== -/
theorem am_ok_e {mi mj np : Nat} {S : List Value} (h : am_ok mi mj np S = true) : np ≤ S.length ∧ am_rk mj + 1 ≤ am_rk mi ∧ 8 + (am_ml mj + 11) + am_lo mj ≤ am_lo mi ∧ ((S.drop np).map Value.category).sum ≤ 8 ∧ (am_en0 (S.take np).reverse).length ≤ am_ml mj := by
  unfold am_ok at h
  obtain ⟨g1, h⟩ := Bool.and_eq_true_iff.mp h
  obtain ⟨g2, h⟩ := Bool.and_eq_true_iff.mp h
  obtain ⟨g3, h⟩ := Bool.and_eq_true_iff.mp h
  obtain ⟨g4, g5⟩ := Bool.and_eq_true_iff.mp h
  exact ⟨Nat.le_of_ble_eq_true g1, Nat.le_of_ble_eq_true g2, Nat.le_of_ble_eq_true g3, Nat.le_of_ble_eq_true g4, Nat.le_of_ble_eq_true g5⟩
theorem am_okL_e {mi : Nat} {r : List Value} (h : am_okL mi r = true) : 1 ≤ am_rk mi ∧ (r.map Value.category).sum + 15 ≤ am_lo mi := by
  unfold am_okL at h
  obtain ⟨g1, g2⟩ := Bool.and_eq_true_iff.mp h
  exact ⟨Nat.le_of_ble_eq_true g1, Nat.le_of_ble_eq_true g2⟩
theorem am_room {E : am_E} {mth : MethodId} {pc : Nat} {ls : Array Slot} {st rest : List Value} (h : (rest.map Value.category).sum ≤ 8) : 2 * (F0 mth pc ls st).monitorRoom + ((rest.map (am_cv E)).map fun v => v.category).sum ≤ 8 := by
  rw [am_cats]
  show 2 * 0 + (rest.map Value.category).sum ≤ 8
  omega
theorem am_sumc {E : am_E} {r : List Value} {k n : Nat} (h : (r.map Value.category).sum + k ≤ n) : ((r.map (am_cv E)).map fun v => v.category).sum + k ≤ n := by
  rw [am_cats]
  exact h
theorem am_pre {E : am_E} {Y : am_Y} {m : am_M} {s : State} {d0 : Drawn} {H : Heap} {As : List Value} (hR : am_Rel E Y m s H) (hG : am_G E s) (hz : E.1 ≤ s.heap.size) (hz2 : s.heap.size ≤ H.size) : ∀ U : State, U.heap = H → (s.setDrawn d0).WarmedH U.vm → am_Pc E Y As m ((As.map (am_cv E)).toArray) U := by
  intro U hU hW
  refine ⟨rfl, ?_, am_G.moved (u := s.setDrawn d0) hW (am_G.same (u := s) (U := s.setDrawn d0) rfl hG), by rw [hU]; omega⟩
  rw [hU]
  exact am_Rel.moved (u := s.setDrawn d0) hW.alike (am_Rel.moved (u := s) (U := s.setDrawn d0) (Vm.Alike.refl s.vm) hR)
/-- Float.intBitsToFloat of a signalling NaN: its bits or the quiet ones, drawn (proved in a part of its own) -/
def am_I2F : Prop := ∀ (p : Program) (la : Launch) (e : Env) (R : Room) (s : State) (mth : MethodId) (args : Array Value) (below : List Frame) (meth : Method) (c : Code) (H : Heap) (locs : List Loc) (cells slots : Nat) (Z : State → Prop) (pc : Nat) (ls : Array Slot) (cc : ByteArray) (own : String) (idx : Nat) (x : Int32) (rest : List Value) (d0 : Drawn), s.drawn.sameBut d0 lw_cs →
  p.tables.exec = Jvm.exec → c.code = cc → c.maxLocals = ls.size → s.vm.findClass own = some mth.cls → (Cond.methodLink own idx ⟨"java/lang/Float", "intBitsToFloat", "(I)F"⟩).before args (s.setDrawn d0) = true → (Cond.native ⟨"java/lang/Float", "intBitsToFloat", "(I)F"⟩).before args (s.setDrawn d0) = true → (Cond.static ⟨"java/lang/Float", "intBitsToFloat", "(I)F"⟩).before args (s.setDrawn d0) = true → (Cond.initialized "java/lang/Float").before args (s.setDrawn d0) = true → vn_sni2f x = true → 1 ≤ R.frames → (rest.map fun v => v.category).sum + 15 ≤ R.locals → decode cc pc = .ok (.invokestatic idx, 3) →
  (∀ (q : UInt32) (d1 : Drawn), (q = x.toUInt32 ∨ q = x.toUInt32 ||| 0x00400000) → s.drawn.sameBut d1 lw_cs → W p la e R (s.setDrawn d1) mth args below meth c H locs cells slots Z (F0 mth (pc + 3) ls (.float q :: rest))) →
  W p la e R (s.setDrawn d0) mth args below meth c H locs cells slots Z (F0 mth pc ls (.int x :: rest))
section INV
variable {Y : am_Y} {mi mc ms pc l : Nat} {L : am_L} {S : List Value} {m : am_M} {Q : Option Value → am_M → Prop}
set_option maxHeartbeats 1000000 in
theorem am_q_invokevirtual {idx : Nat} (hc : am_code mi pc = some (.invokevirtual idx, l)) (h : am_st Y mi mc ms pc L S m (am_kW Y mi Q) (am_cW Y) Q (.invokevirtual idx) l) : am_WP Y mi mc ms pc L S m Q := by
  have hg := am_g_e h
  clear h
  obtain ⟨hb, h⟩ := hg
  obtain rfl := am_beq hb
  cases hk : am_lk (am_CT (am_cls mi)) idx with
  | none => rw [hk] at h; exact h.elim
  | some q =>
    rw [hk] at h
    obtain ⟨ck, mj, np, ml, ps⟩ := q
    have hck := am_CT_e (am_cls_lt (am_mi hc)) hk
    match ck, h, hck with
    | 0, h, hck =>
      have h : am_rv Y m (am_cls mj) (S.drop (np - 1)) (am_cll mi mc ms pc L S m (am_kW Y mi Q) (am_cW Y) mj np) := h
      unfold am_ck0 at hck
      dsimp only at hck
      obtain ⟨u1, hck⟩ := Bool.and_eq_true_iff.mp hck
      obtain ⟨u2, hck⟩ := Bool.and_eq_true_iff.mp hck
      obtain ⟨u3, hck⟩ := Bool.and_eq_true_iff.mp hck
      obtain ⟨u4, hck⟩ := Bool.and_eq_true_iff.mp hck
      obtain ⟨u5, hck⟩ := Bool.and_eq_true_iff.mp hck
      obtain ⟨u6, u7⟩ := Bool.and_eq_true_iff.mp hck
      have hj : mj < 231 := Nat.le_of_ble_eq_true u1
      have hci : am_cls mj < 12 := Nat.le_of_ble_eq_true u2
      have hnp : np = am_np mj + 1 := am_beq u3
      subst hnp
      obtain ⟨j1, j2, j3, j4, j5, j6, j7⟩ := am_m_e (show mj < 232 by omega)
      rw [Nat.add_sub_cancel] at h
      obtain ⟨a, rest, hdrop, hka, h3, c1, s1, c2, s2, emc, ems, hok, hcall⟩ : ∃ (a : Nat) (rest : List Value), S.drop (am_np mj) = .ref a :: rest ∧ am_k Y m a = (am_cls mj, 0) ∧ Nat.ble 3 a = true ∧ am_cll mi mc ms pc L S m (am_kW Y mi Q) (am_cW Y) mj (am_np mj + 1) := by
        unfold am_rv at h
        cases hd : S.drop (am_np mj) with
        | nil => rw [hd] at h; exact h.elim
        | cons v rest =>
          rw [hd] at h
          cases v <;> first | exact h.elim | exact ⟨_, rest, rfl, h⟩
      obtain ⟨o1, o2, o3, o4, o5⟩ := am_ok_e hok
      have hSe : S = S.take (am_np mj) ++ .ref a :: rest := by rw [← hdrop, List.take_append_drop]
      have hlen : (S.take (am_np mj)).length = am_np mj := by rw [List.length_take]; omega
      generalize S.take (am_np mj) = tk at hSe hlen
      subst hSe
      have et : (tk ++ .ref a :: rest).take (am_np mj + 1) = tk ++ [.ref a] := by
        rw [show tk ++ .ref a :: rest = (tk ++ [.ref a]) ++ rest by simp]
        rw [List.take_append_of_le_length (by simp [hlen]), List.take_of_length_le (by simp [hlen])]
      have ed : (tk ++ .ref a :: rest).drop (am_np mj + 1) = rest := by
        rw [show tk ++ .ref a :: rest = (tk ++ [.ref a]) ++ rest by simp]
        rw [List.drop_append_of_le_length (by simp [hlen]), List.drop_of_length_le (by simp [hlen])]
        rfl
      have er : (tk ++ [Value.ref a]).reverse = .ref a :: tk.reverse := by simp
      rw [et, er] at hcall o5
      rw [ed] at hcall o4
      intro E p la e R s mth args below meth c Z d0 H locs cells slots ls hC hZ hd hR hS hl h1 h2
      have hts := dr_words hC.2.2.2.2.1 d0
      have hM := am_met la E Y hj o5 hcall
      have hGI : GoodIn am_TB (wsV (am_cn (am_cls mi)) idx (am_y mj).cls (am_y mj) (am_Wd mj)) := by
        intro w0 hw
        rcases List.mem_append.mp hw with hw | hw
        · simp only [List.mem_cons, List.not_mem_nil, or_false] at hw
          rcases hw with rfl | rfl | rfl | rfl
          · exact am_good _ (am_wd_e u4)
          · exact am_good _ (am_wd_e u5)
          · exact am_good _ (am_wd_e u6)
          · exact am_good _ (am_wd_e u7)
        · exact am_goodW hj w0 hw
      have hat := hR.cell hka (by omega) h3
      rw [am_ce_o hka hci] at hat
      obtain ⟨q1, q2, q3⟩ := am_CL_e hci
      have hrec := va_recv (am_hK hC d0) (am_P1 hat) (q0 := 0) q1 rfl
      have hrun := va_runV_D (cs := lw_cs) (p := p) (l := la) (e := e) (R := R) (s := s.setDrawn d0) (m := mth) (args := args) (below := below) (meth := meth) (c := c) (H := H) (locs := locs) (cells := cells) (slots := slots) (cc := am_bytes mi) (nL := am_ml mi) (Ts := am_TB) (own := am_cn (am_cls mi)) (C := (am_y mj).cls) (b := am_ad E a) (As := tk.reverse.map (am_cv E)) (rest := rest.map (am_cv E)) (g := F0 mth pc ls ((tk ++ .ref a :: rest).map (am_cv E)))
        ⟨hC.1, hC.2.1, hC.2.2.1, hC.2.2.2.1, hts⟩ hM
        (cwV (n := am_np mj) hts hGI rfl rfl rfl ⟨rfl, j2, j3, j5⟩ ⟨Nat.le_trans o2 hC.2.2.2.2.2.2.1, Nat.le_trans o3 hC.2.2.2.2.2.2.2.1⟩)
        ⟨am_blind, by rw [j4]; exact hrec, am_pre hR hC.2.2.2.2.2.2.2.2.1 hC.2.2.2.2.2.2.2.2.2 hS.1⟩ rfl (by simp [hlen]) hl.1 (by simp [am_cv]) (am_room o4) (am_dc hC hc) ⟨by omega, by omega⟩
      exact am_callD hd hrun hS (fun r m1 H1 locs1 d1 hd1 hq1 hR1 hS1 => hq1 E p la e R s mth args below meth c Z d1 H1 locs1 _ _ ls hC hZ hd1 hR1 hS1 hl (by omega) (by omega))
    | 1, h, _ => exact h.elim
    | 2, h, _ => exact h.elim
    | n + 3, h, _ => exact h.elim
set_option maxHeartbeats 1000000 in
theorem am_q_invokestatic {idx : Nat} (hi2f : am_I2F) (hc : am_code mi pc = some (.invokestatic idx, l)) (h : am_st Y mi mc ms pc L S m (am_kW Y mi Q) (am_cW Y) Q (.invokestatic idx) l) : am_WP Y mi mc ms pc L S m Q := by
  have hg := am_g_e h
  clear h
  obtain ⟨hb, h⟩ := hg
  obtain rfl := am_beq hb
  cases hk : am_lk (am_CT (am_cls mi)) idx with
  | none => rw [hk] at h; exact h.elim
  | some q =>
    rw [hk] at h
    obtain ⟨ck, mj, np, ml, ps⟩ := q
    have hck := am_CT_e (am_cls_lt (am_mi hc)) hk
    match ck, h, hck with
    | 0, h, _ => exact h.elim
    | 1, h, hck =>
      have h : am_cll mi mc ms pc L S m (am_kW Y mi Q) (am_cW Y) mj np := h
      unfold am_ck0 at hck
      dsimp only at hck
      obtain ⟨u1, hck⟩ := Bool.and_eq_true_iff.mp hck
      obtain ⟨u3, hck⟩ := Bool.and_eq_true_iff.mp hck
      obtain ⟨u4, hck⟩ := Bool.and_eq_true_iff.mp hck
      obtain ⟨u5, u7⟩ := Bool.and_eq_true_iff.mp hck
      have hj : mj < 231 := Nat.le_of_ble_eq_true u1
      have hnp : np = am_np mj := am_beq u3
      subst hnp
      obtain ⟨j1, j2, j3, j4, j5, j6, j7⟩ := am_m_e (show mj < 232 by omega)
      obtain ⟨c1, s1, c2, s2, emc, ems, hok, hcall⟩ := h
      obtain ⟨o1, o2, o3, o4, o5⟩ := am_ok_e hok
      have hSe : S = S.take (am_np mj) ++ S.drop (am_np mj) := by rw [List.take_append_drop]
      have hlen : (S.take (am_np mj)).length = am_np mj := by rw [List.length_take]; omega
      intro E p la e R s mth args below meth c Z d0 H locs cells slots ls hC hZ hd hR hS hl h1 h2
      generalize S.take (am_np mj) = tk at hSe hlen hcall o5
      generalize S.drop (am_np mj) = rest at hSe hcall o4
      subst hSe
      have hts := dr_words hC.2.2.2.2.1 d0
      have hM := am_met la E Y hj o5 hcall
      have hGI : GoodIn am_TB (va_wsS (am_cn (am_cls mi)) idx (am_y mj) (am_Wd mj)) := by
        intro w0 hw
        rcases List.mem_append.mp hw with hw | hw
        · simp only [List.mem_cons, List.not_mem_nil, or_false] at hw
          rcases hw with rfl | rfl | rfl
          · exact am_good _ (am_wd_e u4)
          · exact am_good _ (am_wd_e u5)
          · exact am_good _ (am_wd_e u7)
        · exact am_goodW hj w0 hw
      have hrun := va_runS_D (cs := lw_cs) (p := p) (l := la) (e := e) (R := R) (s := s.setDrawn d0) (m := mth) (args := args) (below := below) (meth := meth) (c := c) (H := H) (locs := locs) (cells := cells) (slots := slots) (cc := am_bytes mi) (nL := am_ml mi) (Ts := am_TB) (own := am_cn (am_cls mi)) (As := tk.reverse.map (am_cv E)) (rest := rest.map (am_cv E)) (g := F0 mth pc ls ((tk ++ rest).map (am_cv E)))
        ⟨hC.1, hC.2.1, hC.2.2.1, hC.2.2.2.1, hts⟩ hM
        (va_cwS (n := am_np mj) hts hGI rfl rfl rfl ⟨j2, j3, j5⟩ ⟨Nat.le_trans o2 hC.2.2.2.2.2.2.1, Nat.le_trans o3 hC.2.2.2.2.2.2.2.1⟩)
        ⟨am_blind, am_pre hR hC.2.2.2.2.2.2.2.2.1 hC.2.2.2.2.2.2.2.2.2 hS.1⟩ rfl (by simp [hlen]) hl.1 (by simp) (am_room o4) (am_dc hC hc) ⟨by omega, by omega⟩
      exact am_callD hd hrun hS (fun r m1 H1 locs1 d1 hd1 hq1 hR1 hS1 => hq1 E p la e R s mth args below meth c Z d1 H1 locs1 _ _ ls hC hZ hd1 hR1 hS1 hl (by omega) (by omega))
    | 2, h, _ => exact h.elim
    | 3, h, _ => exact h.elim
    | 4, h, _ => exact h.elim
    | 5, h, hck =>
      unfold am_ck0 at hck
      dsimp only at hck
      obtain ⟨u1, hck⟩ := Bool.and_eq_true_iff.mp hck
      obtain ⟨u2, hck⟩ := Bool.and_eq_true_iff.mp hck
      obtain ⟨u3, u4⟩ := Bool.and_eq_true_iff.mp hck
      obtain ⟨x, y, r, e1, hok, g2⟩ := am_i2_e h
      clear h
      subst e1
      obtain ⟨o1, o2⟩ := am_okL_e hok
      intro E p la e R s mth args below meth c Z d0 H locs cells slots ls hC hZ hd hR hS hl h1 h2
      have hfr : 1 ≤ R.frames := Nat.le_trans o1 hC.2.2.2.2.2.2.1
      have hlo : (r.map Value.category).sum + 13 ≤ R.locals := by have := hC.2.2.2.2.2.2.2.1; omega
      exact va_mmax (s := s.setDrawn d0) (cells := cells) (slots := slots) hC.1 hC.2.1 (hC.2.2.1.trans hl.1.symm) hC.2.2.2.1 (am_ht hC d0 (am_wd_e u1)) (am_ht hC d0 (am_wd_e u2)) (am_ht hC d0 (am_wd_e u3)) (am_ht hC d0 (am_wd_e u4)) hfr (am_sumc hlo) (by omega) (by omega) (am_dc hC hc) (g2 E p la e R s mth args below meth c Z d0 H locs cells slots ls hC hZ hd hR hS hl h1 h2)
    | 6, h, hck =>
      unfold am_ck0 at hck
      dsimp only at hck
      obtain ⟨u1, hck⟩ := Bool.and_eq_true_iff.mp hck
      obtain ⟨u2, hck⟩ := Bool.and_eq_true_iff.mp hck
      obtain ⟨u3, u4⟩ := Bool.and_eq_true_iff.mp hck
      obtain ⟨x, y, r, e1, hok, g2⟩ := am_i2_e h
      clear h
      subst e1
      obtain ⟨o1, o2⟩ := am_okL_e hok
      intro E p la e R s mth args below meth c Z d0 H locs cells slots ls hC hZ hd hR hS hl h1 h2
      have hfr : 1 ≤ R.frames := Nat.le_trans o1 hC.2.2.2.2.2.2.1
      have hlo : (r.map Value.category).sum + 13 ≤ R.locals := by have := hC.2.2.2.2.2.2.2.1; omega
      exact va_mmin (s := s.setDrawn d0) (cells := cells) (slots := slots) hC.1 hC.2.1 (hC.2.2.1.trans hl.1.symm) hC.2.2.2.1 (am_ht hC d0 (am_wd_e u1)) (am_ht hC d0 (am_wd_e u2)) (am_ht hC d0 (am_wd_e u3)) (am_ht hC d0 (am_wd_e u4)) hfr (am_sumc hlo) (by omega) (by omega) (am_dc hC hc) (g2 E p la e R s mth args below meth c Z d0 H locs cells slots ls hC hZ hd hR hS hl h1 h2)
    | 7, h, hck =>
      unfold am_ck0 at hck
      dsimp only at hck
      obtain ⟨u1, hck⟩ := Bool.and_eq_true_iff.mp hck
      obtain ⟨u2, hck⟩ := Bool.and_eq_true_iff.mp hck
      obtain ⟨u3, u4⟩ := Bool.and_eq_true_iff.mp hck
      obtain ⟨x, r, e1, hok, g2⟩ := am_i1_e h
      clear h
      subst e1
      obtain ⟨o1, o2⟩ := am_okL_e hok
      intro E p la e R s mth args below meth c Z d0 H locs cells slots ls hC hZ hd hR hS hl h1 h2
      have hfr : 1 ≤ R.frames := Nat.le_trans o1 hC.2.2.2.2.2.2.1
      have hlo : (r.map Value.category).sum + 13 ≤ R.locals := by have := hC.2.2.2.2.2.2.2.1; omega
      exact va_mabs (s := s.setDrawn d0) (cells := cells) (slots := slots) hC.1 hC.2.1 (hC.2.2.1.trans hl.1.symm) hC.2.2.2.1 (am_ht hC d0 (am_wd_e u1)) (am_ht hC d0 (am_wd_e u2)) (am_ht hC d0 (am_wd_e u3)) (am_ht hC d0 (am_wd_e u4)) hfr (am_sumc hlo) (by omega) (by omega) (am_dc hC hc) (g2 E p la e R s mth args below meth c Z d0 H locs cells slots ls hC hZ hd hR hS hl h1 h2)
    | 8, h, hck =>
      unfold am_ck0 at hck
      dsimp only at hck
      obtain ⟨u1, hck⟩ := Bool.and_eq_true_iff.mp hck
      obtain ⟨u2, hck⟩ := Bool.and_eq_true_iff.mp hck
      obtain ⟨u3, u4⟩ := Bool.and_eq_true_iff.mp hck
      obtain ⟨x, r, e1, hok, g2⟩ := am_i1_e h
      clear h
      subst e1
      obtain ⟨o1, o2⟩ := am_okL_e hok
      intro E p la e R s mth args below meth c Z d0 H locs cells slots ls hC hZ hd hR hS hl h1 h2
      have hfr : 1 ≤ R.frames := Nat.le_trans o1 hC.2.2.2.2.2.2.1
      have hlo : (r.map Value.category).sum + 15 ≤ R.locals := by have := hC.2.2.2.2.2.2.2.1; omega
      cases hsn : vn_sni2f x with
      | false => exact vn_i2f (s := s.setDrawn d0) hC.1 hC.2.1 (hC.2.2.1.trans hl.1.symm) hC.2.2.2.1 (am_ht hC d0 (am_wd_e u1)) (am_ht hC d0 (am_wd_e u4)) (am_ht hC d0 (am_wd_e u2)) (am_ht hC d0 (am_wd_e u3)) hsn hfr (am_sumc hlo) (am_dc hC hc) (g2 _ (Or.inl ⟨hsn, rfl⟩) E p la e R s mth args below meth c Z d0 H locs cells slots ls hC hZ hd hR hS hl h1 h2)
      | true => exact hi2f p la e R s mth args below meth c H locs cells slots Z pc ls (am_bytes mi) (am_cn (am_cls mi)) idx x (r.map (am_cv E)) d0 hd hC.1 hC.2.1 (hC.2.2.1.trans hl.1.symm) hC.2.2.2.1 (am_ht hC d0 (am_wd_e u1)) (am_ht hC d0 (am_wd_e u4)) (am_ht hC d0 (am_wd_e u2)) (am_ht hC d0 (am_wd_e u3)) hsn hfr (am_sumc hlo) (am_dc hC hc) (fun q d1 hq hd1 => g2 q (Or.inr ⟨hsn, hq⟩) E p la e R s mth args below meth c Z d1 H locs cells slots ls hC hZ hd1 hR hS hl h1 h2)
    | n + 9, h, _ => exact h.elim
set_option maxHeartbeats 1000000 in
theorem am_q_invokespecial {idx : Nat} (hc : am_code mi pc = some (.invokespecial idx, l)) (h : am_st Y mi mc ms pc L S m (am_kW Y mi Q) (am_cW Y) Q (.invokespecial idx) l) : am_WP Y mi mc ms pc L S m Q := by
  have hg := am_g_e h
  clear h
  obtain ⟨hb, h⟩ := hg
  obtain rfl := am_beq hb
  cases hk : am_lk (am_CT (am_cls mi)) idx with
  | none => rw [hk] at h; exact h.elim
  | some q =>
    rw [hk] at h
    obtain ⟨ck, mj, np, ml, ps⟩ := q
    have hck := am_CT_e (am_cls_lt (am_mi hc)) hk
    match ck, h, hck with
    | 0, h, _ => exact h.elim
    | 1, h, _ => exact h.elim
    | 2, h, hck =>
      have h : am_v1 (S.drop (np - 1)) fun v _ => (∃ a, v = .ref a) ∧ am_cll mi mc ms pc L S m (am_kW Y mi Q) (am_cW Y) mj np := h
      unfold am_ck0 at hck
      dsimp only at hck
      obtain ⟨u1, hck⟩ := Bool.and_eq_true_iff.mp hck
      obtain ⟨u3, hck⟩ := Bool.and_eq_true_iff.mp hck
      obtain ⟨u4, hck⟩ := Bool.and_eq_true_iff.mp hck
      obtain ⟨u5, hck⟩ := Bool.and_eq_true_iff.mp hck
      obtain ⟨u7, hck⟩ := Bool.and_eq_true_iff.mp hck
      obtain ⟨u8, u9⟩ := Bool.and_eq_true_iff.mp hck
      have hj : mj < 231 := Nat.le_of_ble_eq_true u1
      have hnp : np = am_np mj + 1 := am_beq u3
      subst hnp
      obtain ⟨j1, j2, j3, j4, j5, j6, j7⟩ := am_m_e (show mj < 232 by omega)
      have hret : am_ret mj = none := by
        have z := am_beq u9
        rcases j6 with ⟨_, q⟩ | ⟨q, _⟩ | ⟨q, _⟩ | ⟨q, _⟩ | ⟨q, _⟩
        · exact q
        all_goals omega
      rw [Nat.add_sub_cancel] at h
      obtain ⟨v, rest, hdrop, ⟨a, rfl⟩, c1, s1, c2, s2, emc, ems, hok, hcall⟩ := am_v1_e h
      obtain ⟨o1, o2, o3, o4, o5⟩ := am_ok_e hok
      have hSe : S = S.take (am_np mj) ++ .ref a :: rest := by rw [← hdrop, List.take_append_drop]
      have hlen : (S.take (am_np mj)).length = am_np mj := by rw [List.length_take]; omega
      generalize S.take (am_np mj) = tk at hSe hlen
      subst hSe
      have et : (tk ++ .ref a :: rest).take (am_np mj + 1) = tk ++ [.ref a] := by
        rw [show tk ++ .ref a :: rest = (tk ++ [.ref a]) ++ rest by simp]
        rw [List.take_append_of_le_length (by simp [hlen]), List.take_of_length_le (by simp [hlen])]
      have ed : (tk ++ .ref a :: rest).drop (am_np mj + 1) = rest := by
        rw [show tk ++ .ref a :: rest = (tk ++ [.ref a]) ++ rest by simp]
        rw [List.drop_append_of_le_length (by simp [hlen]), List.drop_of_length_le (by simp [hlen])]
        rfl
      have er : (tk ++ [Value.ref a]).reverse = .ref a :: tk.reverse := by simp
      rw [et, er] at hcall o5
      rw [ed] at hcall o4
      intro E p la e R s mth args below meth c Z d0 H locs cells slots ls hC hZ hd hR hS hl h1 h2
      have hts := dr_words hC.2.2.2.2.1 d0
      have hM := am_met la E Y hj o5 hcall
      have hrun := va_runI_D (cs := lw_cs) (p := p) (l := la) (e := e) (R := R) (s := s.setDrawn d0) (m := mth) (args := args) (below := below) (meth := meth) (c := c) (H := H) (locs := locs) (cells := cells) (slots := slots) (cc := am_bytes mi) (nL := am_ml mi) (Ts := am_TB) (own := am_cn (am_cls mi)) (b := am_ad E a) (As := tk.reverse.map (am_cv E)) (rest := rest.map (am_cv E)) (g := F0 mth pc ls ((tk ++ .ref a :: rest).map (am_cv E)))
        ⟨hC.1, hC.2.1, hC.2.2.1, hC.2.2.2.1, hts⟩ hM
        (cwI (n := am_np mj) (bytes := am_bytes mj) (maxL := am_ml mj) hts (am_goodW hj) (by unfold am_Wd; rw [hret]) rfl rfl (hts _ (am_wd_e u7)) (hts _ (am_wd_e u4)) (hts _ (am_wd_e u5)) (j7 u8) ⟨j2, j3, j5⟩ ⟨Nat.le_trans o2 hC.2.2.2.2.2.2.1, Nat.le_trans o3 hC.2.2.2.2.2.2.2.1⟩)
        ⟨am_blind, am_pre (As := .ref a :: tk.reverse) hR hC.2.2.2.2.2.2.2.2.1 hC.2.2.2.2.2.2.2.2.2 hS.1⟩ rfl (by simp [hlen]) hl.1 (by simp [am_cv]) (am_room o4) (am_dc hC hc) ⟨by omega, by omega⟩
      exact am_callD hd hrun hS (fun r m1 H1 locs1 d1 hd1 hq1 hR1 hS1 => hq1 E p la e R s mth args below meth c Z d1 H1 locs1 _ _ ls hC hZ hd1 hR1 hS1 hl (by omega) (by omega))
    | 3, h, hck =>
      have h : am_v1 (S.drop (np - 1)) fun v _ => (∃ a, v = .ref a) ∧ am_cll mi mc ms pc L S m (am_kW Y mi Q) (am_cW Y) mj np := h
      unfold am_ck0 at hck
      dsimp only at hck
      obtain ⟨u1, hck⟩ := Bool.and_eq_true_iff.mp hck
      obtain ⟨u3, hck⟩ := Bool.and_eq_true_iff.mp hck
      obtain ⟨u4, hck⟩ := Bool.and_eq_true_iff.mp hck
      obtain ⟨u5, hck⟩ := Bool.and_eq_true_iff.mp hck
      obtain ⟨u7, hck⟩ := Bool.and_eq_true_iff.mp hck
      obtain ⟨u8, u9⟩ := Bool.and_eq_true_iff.mp hck
      have hj : mj < 231 := Nat.le_of_ble_eq_true u1
      have hnp : np = am_np mj + 1 := am_beq u3
      subst hnp
      obtain ⟨j1, j2, j3, j4, j5, j6, j7⟩ := am_m_e (show mj < 232 by omega)
      have hret : am_ret mj = none := by
        have z := am_beq u9
        rcases j6 with ⟨_, q⟩ | ⟨q, _⟩ | ⟨q, _⟩ | ⟨q, _⟩ | ⟨q, _⟩
        · exact q
        all_goals omega
      rw [Nat.add_sub_cancel] at h
      obtain ⟨v, rest, hdrop, ⟨a, rfl⟩, c1, s1, c2, s2, emc, ems, hok, hcall⟩ := am_v1_e h
      obtain ⟨o1, o2, o3, o4, o5⟩ := am_ok_e hok
      have hSe : S = S.take (am_np mj) ++ .ref a :: rest := by rw [← hdrop, List.take_append_drop]
      have hlen : (S.take (am_np mj)).length = am_np mj := by rw [List.length_take]; omega
      generalize S.take (am_np mj) = tk at hSe hlen
      subst hSe
      have et : (tk ++ .ref a :: rest).take (am_np mj + 1) = tk ++ [.ref a] := by
        rw [show tk ++ .ref a :: rest = (tk ++ [.ref a]) ++ rest by simp]
        rw [List.take_append_of_le_length (by simp [hlen]), List.take_of_length_le (by simp [hlen])]
      have ed : (tk ++ .ref a :: rest).drop (am_np mj + 1) = rest := by
        rw [show tk ++ .ref a :: rest = (tk ++ [.ref a]) ++ rest by simp]
        rw [List.drop_append_of_le_length (by simp [hlen]), List.drop_of_length_le (by simp [hlen])]
        rfl
      have er : (tk ++ [Value.ref a]).reverse = .ref a :: tk.reverse := by simp
      rw [et, er] at hcall o5
      rw [ed] at hcall o4
      intro E p la e R s mth args below meth c Z d0 H locs cells slots ls hC hZ hd hR hS hl h1 h2
      have hts := dr_words hC.2.2.2.2.1 d0
      have hM := am_met la E Y hj o5 hcall
      have hrun := va_runIN_D (host := RX10) (cs := lw_cs) (p := p) (l := la) (e := e) (R := R) (s := s.setDrawn d0) (m := mth) (args := args) (below := below) (meth := meth) (c := c) (H := H) (locs := locs) (cells := cells) (slots := slots) (cc := am_bytes mi) (nL := am_ml mi) (Ts := am_TB) (own := am_cn (am_cls mi)) (b := am_ad E a) (As := tk.reverse.map (am_cv E)) (rest := rest.map (am_cv E)) (g := F0 mth pc ls ((tk ++ .ref a :: rest).map (am_cv E)))
        ⟨hC.1, hC.2.1, hC.2.2.1, hC.2.2.2.1, hts⟩ hM
        ⟨va_cnB (n := am_np mj) (bytes := am_bytes mj) (maxL := am_ml mj) hts (am_goodW hj) (by unfold am_Wd; rw [hret]) rfl rfl (hC.2.2.2.2.2.2.2.2.1.2.2.1 _ (am_wn_e u4)) (hts _ (am_wd_e u7)) ⟨j2, j3, j5⟩ ⟨Nat.le_trans o2 hC.2.2.2.2.2.2.1, Nat.le_trans o3 hC.2.2.2.2.2.2.2.1⟩, j7 u8, hts _ (am_wd_e u5)⟩
        ⟨am_blind, am_pre (As := .ref a :: tk.reverse) hR hC.2.2.2.2.2.2.2.2.1 hC.2.2.2.2.2.2.2.2.2 hS.1⟩ rfl (by simp [hlen]) hl.1 (by simp [am_cv]) (am_room o4) (am_dc hC hc) ⟨by omega, by omega⟩
      exact am_callD hd hrun hS (fun r m1 H1 locs1 d1 hd1 hq1 hR1 hS1 => hq1 E p la e R s mth args below meth c Z d1 H1 locs1 _ _ ls hC hZ hd1 hR1 hS1 hl (by omega) (by omega))
    | 4, h, hck =>
      unfold am_ck0 at hck
      dsimp only at hck
      obtain ⟨u1, hck⟩ := Bool.and_eq_true_iff.mp hck
      obtain ⟨u2, u3⟩ := Bool.and_eq_true_iff.mp hck
      obtain ⟨a, r, e1, hok, g2⟩ := am_r1_e h
      clear h
      subst e1
      obtain ⟨o1, o2⟩ := am_okL_e hok
      intro E p la e R s mth args below meth c Z d0 H locs cells slots ls hC hZ hd hR hS hl h1 h2
      have hfr : 1 ≤ R.frames := Nat.le_trans o1 hC.2.2.2.2.2.2.1
      have hlo : (r.map Value.category).sum + 12 ≤ R.locals := by have := hC.2.2.2.2.2.2.2.1; omega
      have hlo2 := am_sumc (E := E) hlo
      exact W.objInit (s := s.setDrawn d0) (g := F0 mth pc ls (.ref (am_ad E a) :: r.map (am_cv E))) hC.1 hC.2.1 hC.2.2.2.1 (am_ht hC d0 (am_wd_e u1)) (am_ht hC d0 (am_wd_e u2)) (am_ht hC d0 (am_wd_e u3)) rfl (hl.1.trans hC.2.2.1.symm) rfl (am_dc hC hc) hfr (by show 2 * 0 + _ + 12 ≤ _; omega) (g2 E p la e R s mth args below meth c Z d0 H locs cells slots ls hC hZ hd hR hS hl h1 h2)
    | n + 5, h, _ => exact h.elim
end INV
