/-! ===== calls ===== -/
theorem am_Rel.moved {E : am_E} {Y : am_Y} {m : am_M} {u U : State} {H : Heap} (hvm : u.vm.Alike U.vm) (h : am_Rel E Y m u H) : am_Rel E Y m U H := by
  refine ⟨h.1, h.2.1, ⟨fun a ha => ?_, h.2.2.1.2.1.moved hvm, h.2.2.1.2.2.moved hvm⟩, h.2.2.2⟩
  obtain ⟨cell, n, g1, g2, g3, g4⟩ := h.2.2.1.1 a ha
  exact ⟨cell, n, g1, g2, State.isArrayOf_alike hvm g3, g4⟩
theorem am_G.moved {E : am_E} {u U : State} (hW : u.WarmedH U.vm) (h : am_G E u) : am_G E U := by
  refine ⟨h.1, va_K.moved hW.alike h.2.1, fun w0 hw => ?_, h.2.2.2.1.moved hW.alike, h.2.2.2.2.moved hW.alike⟩
  have h1 := h.2.2.1 w0 hw
  have h2 := (List.mem_filter.mp hw).2
  cases w0 <;> first | (cases h2; done) | exact va_Nw.warmM hW h1
theorem am_G.same {E : am_E} {u U : State} (hvm : u.vm = U.vm) (h : am_G E u) : am_G E U := by
  have ha : u.vm.Alike U.vm := by rw [hvm]; exact Vm.Alike.refl U.vm
  refine ⟨h.1, va_K.moved ha h.2.1, fun w0 hw => ?_, h.2.2.2.1.moved ha, h.2.2.2.2.moved ha⟩
  have h1 := h.2.2.1 w0 hw
  have h2 := (List.mem_filter.mp hw).2
  cases w0 <;> first | (cases h2; done) | exact va_Nw.same rfl hvm h1
theorem am_ge_en0 (E : am_E) : ∀ (vs : List Value) (pad : Nat) (k i : Nat) (v : Value), am_ge (am_en0 vs ++ List.replicate pad none) i = some v → (k + i, am_cv E v) ∈ lv_args k (vs.map (am_cv E))
  | [], pad, k, i, v, h => by
    exfalso
    have : ∀ (n j : Nat), am_ge (List.replicate n none) j = none := by
      intro n
      induction n with
      | zero => intro j; cases j <;> rfl
      | succ n ih => intro j; cases j with
        | zero => rfl
        | succ j => exact ih j
    rw [show am_en0 [] ++ List.replicate pad none = List.replicate pad none from rfl, this] at h
    cases h
  | x :: vs, pad, k, i, v, h => by
    rw [List.map_cons]
    unfold lv_args
    rw [am_cat]
    by_cases hc : x.category = 2
    · have e0 : am_en0 (x :: vs) = some x :: none :: am_en0 vs := by
        show cond (Nat.beq x.category 2) _ _ = _
        rw [hc]; rfl
      rw [e0] at h
      rw [if_pos hc]
      match i, h with
      | 0, h => cases h; exact List.mem_cons_self
      | i + 2, h =>
        have := am_ge_en0 E vs pad (k + 2) i v h
        rw [show k + (i + 2) = k + 2 + i by omega]
        exact List.mem_cons_of_mem _ this
    · have hb : Nat.beq x.category 2 = false := by
        cases hb : Nat.beq x.category 2
        · rfl
        · exact absurd (am_beq hb) hc
      have e0 : am_en0 (x :: vs) = some x :: am_en0 vs := by
        show cond (Nat.beq x.category 2) _ _ = _
        rw [hb]; rfl
      rw [e0] at h
      rw [if_neg hc]
      match i, h with
      | 0, h => cases h; exact List.mem_cons_self
      | i + 1, h =>
        have := am_ge_en0 E vs pad (k + 1) i v h
        rw [show k + (i + 1) = k + 1 + i by omega]
        exact List.mem_cons_of_mem _ this
theorem am_en_len (E : am_E) : ∀ vs : List Value, (lg_sl (vs.map (am_cv E))).length = (am_en0 vs).length
  | [] => rfl
  | x :: vs => by
    have ih := am_en_len E vs
    rw [List.map_cons]
    unfold lg_sl at ih ⊢
    rw [List.flatMap_cons, List.length_append, ih, am_cat]
    by_cases hc : x.category = 2
    · rw [if_pos hc]
      show _ = (cond (Nat.beq x.category 2) _ _ : am_L).length
      rw [hc]
      show 2 + _ = _ + 1 + 1
      omega
    · have hb : Nat.beq x.category 2 = false := by
        cases hb : Nat.beq x.category 2
        · rfl
        · exact absurd (am_beq hb) hc
      rw [if_neg hc]
      show _ = (cond (Nat.beq x.category 2) _ _ : am_L).length
      rw [hb]
      show 1 + _ = _ + 1
      omega
/-- a method's contract: any heap that holds this memory -/
def am_Pc (E : am_E) (Y : am_Y) (As : List Value) (m : am_M) : Array Value → State → Prop := fun v U => v = (As.map (am_cv E)).toArray ∧ am_Rel E Y m U U.heap ∧ am_G E U ∧ E.1 ≤ U.heap.size
def am_Qc (E : am_E) (Y : am_Y) (Q : Option Value → am_M → Prop) : Array Value → State → Outcome → State → Prop := fun _ st oc t => (∃ (r : Option Value) (m1 : am_M), oc = .returned (r.map (am_cv E)) ∧ Q r m1 ∧ am_Rel E Y m1 t t.heap) ∧ va_F (am_A E) st t
def am_rm (mj c1 s1 : Nat) : Room := { frames := am_rk mj, cells := c1, slots := s1, locals := am_lo mj }
theorem am_blind {E : am_E} {Y : am_Y} {As : List Value} {m : am_M} : FrameBlind (am_Pc E Y As m) := by
  intro a U g mk h
  obtain ⟨h1, h2, h3, h4⟩ := h
  exact ⟨h1, am_Rel.moved (u := U) (U := U.calling g mk a) (Vm.Alike.refl U.vm) h2, am_G.same (u := U) (U := U.calling g mk a) rfl h3, h4⟩
theorem am_good : GoodIn am_TB am_TB := fun w0 h => ⟨h, good_of_word (List.mem_filter.mp h).2⟩
theorem am_goodW {mj : Nat} (h : mj < 231) : GoodIn am_TB (am_Wd mj) := by
  intro w0 hw
  rcases List.mem_cons.mp hw with rfl | hw
  · exact am_good _ (am_kc_all h)
  · exact am_good w0 hw
set_option maxHeartbeats 1000000 in
theorem am_met (l : Launch) (E : am_E) (Y : am_Y) {mj c1 s1 : Nat} {As : List Value} {m : am_M} {Q : Option Value → am_M → Prop} (hj : mj < 231) (hlen : (am_en0 As).length ≤ am_ml mj) (h : am_WP Y mj c1 s1 0 (am_en (am_ml mj) As) [] m Q) :
    MetD lw_cs l (am_y mj) (am_Wd mj) (am_rm mj c1 s1) (am_Pc E Y As m) (am_Qc E Y Q) c1 s1 (am_A E) := by
  obtain ⟨j1, j2, j3, j4, j5, j6, j7⟩ := am_m_e (show mj < 232 by omega)
  refine MetD.ofW (cc := am_bytes mj) (maxL := am_ml mj) (ret := am_ret mj) j1 rfl ?_
  intro p e s mth args below meth c s₁ B hml hv hd0
  obtain ⟨rfl, hR, hG, hz⟩ := hv
  have hts := atoms_spec (ws := am_Wd mj) B.pre
  have hC : am_C E mj p (am_rm mj c1 s1) s mth ((As.map (am_cv E)).toArray) meth c := by
    refine ⟨B.exec, B.bytes, hml, ?_, fun w0 hw => hts w0 (List.mem_cons_of_mem _ hw), fun hi => ?_, Nat.le_refl _, Nat.le_refl _, hG, hz⟩
    · rw [← j4]
      exact findClass_of_methodNamed B.named
    · rw [(name_of_methodNamed B.named B.method).1]
      exact j7 hi
  have hl := lv_entry (As.map (am_cv E)) (n := am_ml mj) (by rw [am_en_len]; exact hlen)
  rw [lg_entry_eq]
  refine h E p l e (am_rm mj c1 s1) s mth _ below meth c _ s.drawn s.heap [] 0 0 _ hC ?_ hd0 hR va_S.rf ⟨hl.1, hl.2.1, fun i v hg => ?_⟩ (by show 0 + c1 ≤ c1; omega) (by show 0 + s1 ≤ s1; omega)
  · intro d0 H locs cells slots r m1 i pc ls hd hR1 hS hcl hsl hdg hrt hq
    refine W.endD hd ?_
    refine W.widen (k := c1) (n := s1) hcl hsl ?_
    have fin : ∀ t : State, t.heap = H → (s.setDrawn d0).WarmedH t.vm → am_Qc E Y Q ((As.map (am_cv E)).toArray) (s.setDrawn d0) (.returned (r.map (am_cv E))) t := by
      intro t ht hW
      refine ⟨⟨r, m1, rfl, hq, ?_⟩, hS.F ht⟩
      rw [ht]
      exact hR1.moved hW.alike
    have hb := B.bytes
    have hret := B.returns
    have hlk := B.notSynchronized
    have hfr : ∀ q ∈ locs, am_A E q.base := hS.2.2
    cases r with
    | none =>
      obtain ⟨rfl, hr⟩ := hrt
      exact W.vret B.exec hb (hret.trans hr) fin hfr hdg hlk
    | some v =>
      cases v with
      | int x =>
        obtain ⟨rfl, ty, hr, hn⟩ := hrt
        exact W.zret B.exec hb (hret.trans hr) hn fin hfr hdg hlk
      | float x =>
        obtain ⟨rfl, hr⟩ := hrt
        exact W.fret B.exec hb (hret.trans hr) fin hfr hdg hlk
      | null =>
        obtain ⟨rfl, nn, hr⟩ := hrt
        exact W.aret B.exec hb (hret.trans hr) (Or.inl ⟨nn, rfl⟩) (Or.inl rfl) fin hfr hdg hlk
      | ref a =>
        obtain ⟨rfl, nn, hr⟩ := hrt
        exact W.aret B.exec hb (hret.trans hr) (Or.inl ⟨nn, rfl⟩) (Or.inr ⟨_, rfl⟩) fin hfr hdg hlk
      | long x => exact hrt.elim
      | double x => exact hrt.elim
      | retAddr x => exact hrt.elim
  · have := am_ge_en0 E As _ 0 i v hg
    rw [Nat.zero_add] at this
    exact hl.2.2 _ this
/-- behind a call -/
theorem am_callD {E : am_E} {Y : am_Y} {p : Program} {la : Launch} {e : Env} {R : Room} {s : State} {mth : MethodId} {args : Array Value} {below : List Frame} {meth : Method} {c : Code} {H : Heap} {locs : List Loc} {cells slots c1 s1 pc : Nat} {Z : State → Prop} {d0 : Drawn} {ls : Array Slot} {st0 rest : List Value} {a : Array Value} {Q1 : Option Value → am_M → Prop}
    (hd0 : s.drawn.sameBut d0 lw_cs) (hr : va_RunD lw_cs p la e R (s.setDrawn d0) mth args below meth c H locs cells slots c1 s1 (F0 mth pc ls st0) (rest.map (am_cv E)) (am_Qc E Y Q1 a) (am_A E)) (hS : va_S (am_A E) s.heap H locs)
    (kk : ∀ (r : Option Value) (m1 : am_M) (H1 : Heap) (locs1 : List Loc) (d1 : Drawn), s.drawn.sameBut d1 lw_cs → Q1 r m1 → am_Rel E Y m1 s H1 → va_S (am_A E) s.heap H1 locs1 → W p la e R (s.setDrawn d1) mth args below meth c H1 locs1 (cells + c1) (slots + s1) Z (F0 mth (pc + 3) ls ((am_pu r rest).map (am_cv E)))) :
    W p la e R (s.setDrawn d0) mth args below meth c H locs cells slots Z (F0 mth pc ls st0) := by
  intro T hT X
  obtain ⟨v, st₀, t, T', Lc, d', hd', h0, X', hL, e1, e2, ⟨⟨r, m1, hv, hq, hrel⟩, hz, hk⟩, st⟩ := hr T hT X
  have hv' : v = r.map (am_cv E) := by cases hv; rfl
  have hal : s.vm.Alike t.vm := by
    have := X'.warmed.alike
    rw [e2] at this
    exact this
  rw [h0] at hz hk
  obtain ⟨t2, a1, b1⟩ := kk r m1 T'.heap (locs ++ Lc) d' (hd0.trans hd') hq (by rw [e1]; exact hrel.moved hal.symm)
    ⟨Nat.le_trans hS.1 (by rw [e1]; exact hz), fun q g1 g2 => by rw [e1, hk q (Nat.lt_of_lt_of_le g1 hS.1) g2]; exact hS.2.1 q g1 g2, fun q hq => by
      rcases List.mem_append.mp hq with g | g
      · exact hS.2.2 q g
      · exact hL q g⟩ T' rfl X'
  refine ⟨t2, st t2 ?_, b1⟩
  have estk : (am_pu r rest).map (am_cv E) = v.toList ++ rest.map (am_cv E) := by
    rw [hv']
    cases r <;> rfl
  rw [estk] at a1
  exact a1
