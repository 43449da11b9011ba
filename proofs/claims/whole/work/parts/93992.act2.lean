/-! ===== out, crew, move, clear: one answer ===== -/
theorem gr_act {T : List Nat} {m mk m2 : am_M} (gk : Gr T m mk) (ar : Ar UU mk m2) : Gr (T ++ UU) m m2 := (gk.sub (fun a z => List.mem_append.mpr (Or.inl z))).tr (Gr.ar (ar.sub (fun a z => List.mem_append.mpr (Or.inr z))))
theorem Un_0 (w o : Int32) (x : Option Nat) (c : Co) : Un 0 w o x c = (cup c.1 w.toInt.toNat none, c.2) := by
  unfold Un
  rw [if_pos rfl]
theorem Un_1 (w o : Int32) (x : Option Nat) (c : Co) : Un 1 w o x c = (cup c.1 w.toInt.toNat x, c.2) := by
  unfold Un
  rw [if_neg (by decide), if_pos rfl]
theorem Un_2 (w o : Int32) (x : Option Nat) (c : Co) : Un 2 w o x c = (c.1, cup c.2.1 w.toInt.toNat (-1), c.2.2) := by
  unfold Un
  rw [if_neg (by decide), if_neg (by decide), if_pos rfl]
theorem Un_3 (w o : Int32) (x : Option Nat) (c : Co) : Un 3 w o x c = (c.1, cup c.2.1 w.toInt.toNat (-1), c.2.2.1 - 1, c.2.2.2) := by
  unfold Un
  rw [if_neg (by decide), if_neg (by decide), if_neg (by decide), if_pos rfl]
theorem Un_4 (w o : Int32) (x : Option Nat) (c : Co) : Un 4 w o x c = (c.1, cup c.2.1 w.toInt.toNat o, c.2.2) := by
  unfold Un
  rw [if_neg (by decide), if_neg (by decide), if_neg (by decide), if_neg (by decide), if_pos rfl]
theorem Un_5 (w o : Int32) (x : Option Nat) (c : Co) : Un 5 w o x c = (c.1, c.2.1, c.2.2.1, cup c.2.2.2.1 w.toInt.toNat 0, c.2.2.2.2) := by
  unfold Un
  rw [if_neg (by decide), if_neg (by decide), if_neg (by decide), if_neg (by decide), if_neg (by decide), if_pos rfl]
theorem Un_6 (w o : Int32) (x : Option Nat) (c : Co) : Un 6 w o x c = (c.1, c.2.1, c.2.2.1, c.2.2.2.1, c.2.2.2.2.1, c.2.2.2.2.2.1 - 1, c.2.2.2.2.2.2) := by
  unfold Un
  rw [if_neg (by decide), if_neg (by decide), if_neg (by decide), if_neg (by decide), if_neg (by decide), if_neg (by decide), if_pos rfl]
theorem Un_7 (w o : Int32) (x : Option Nat) (c : Co) : Un 7 w o x c = (c.1, c.2.1, c.2.2.1, c.2.2.2.1, c.2.2.2.2.1, c.2.2.2.2.2.1, cup c.2.2.2.2.2.2 w.toInt.toNat o) := by
  unfold Un
  rw [if_neg (by decide), if_neg (by decide), if_neg (by decide), if_neg (by decide), if_neg (by decide), if_neg (by decide), if_neg (by decide)]
theorem toN {k : Nat} (h : k < 1000) : (iI (k : Int)).toInt.toNat = k := by
  rw [iI_to (by omega) (by omega), Int.toNat_natCast]
theorem A_b0 {m : am_M} {E C : Nat} (h : RN m E C) {f : Nat} (hf : f < E) (hb : m.1 115 (300 + f) = 0) : m.1 39 f = 0 ∧ 0 < fb_ct (fun i => decide (m.1 36 i = iI (f : Int))) 60 := by
  have o := (h.1.outs f hf).2
  rw [hb] at o
  by_cases c : m.1 39 f = 0
  · rw [if_pos c] at o
    by_cases d : 0 < fb_ct (fun i => decide (m.1 36 i = iI (f : Int))) 60
    · exact ⟨c, d⟩
    · rw [if_neg d] at o
      exact absurd o (by decide)
  · rw [if_neg c] at o
    exact absurd o (by decide)
theorem P_out {m : am_M} (hI : Inv m) (f : Int) (hbf : -2147483648 ≤ f ∧ f ≤ 2147483647) : Pr 129 [some (.ref 3), some (.int (iI f))] 199 [some (.ref 109), some (.int (iI f))] m := by
  obtain ⟨n, E, C, tp, sz, lt, i1, i2, i3, i4, i5, i6, i7, i8, i9⟩ := id hI
  have hE := i4.1.ever
  have hC := i4.1.crews
  have h9 := i9
  obtain ⟨t1, t2, t3, t4, t5, t6, t7, _⟩ := h9
  have gd := A_burn i4 f
  refine S_cout m _ tp sz t1 t2 t4 t5 f hbf (fun z => ?_) (fun z m1 k1 => ?_)
  · exact S_mout m _ E hE.1 hE.2 lt sz t3 t2 t7 t6 f hbf (fun _ => ⟨rfl, ⟨_, rfl⟩, hI⟩) (fun w => absurd (gd.mpr w) z)
  · have z' := gd.mp z
    obtain ⟨y1, y2⟩ := Bool.and_eq_true_iff.mp z'
    have y2 := of_decide_eq_true y2
    have fb := (i4.fo f).2.mp y1
    obtain ⟨g, rfl⟩ : ∃ n : Nat, f = (n : Int) := ⟨f.toNat, by omega⟩
    rw [Int.toNat_natCast] at k1 y2
    have gE : g < E := by omega
    have b0 := A_b0 i4 gE y2
    have gk : Gr [39] m (am_pI m 39 g 1) := Gr.ar ((Ar.rf _ m).pI (by decide) _ _)
    have e115 := (k1.fr gk i8 115 (by decide) (by decide) (by decide)).1
    have e109 := (k1.fr gk i8 109 (by decide) (by decide) (by decide)).1
    have em : mouok m1 (g : Int) = mouok m (g : Int) := by
      unfold mouok mfo
      rw [e115]
    refine S_mout m1 _ E hE.1 (by rw [e115]; exact hE.2) lt sz t3 t2 (by rw [e109]; exact t7) (by rw [e109]; exact t6) (g : Int) hbf (fun w => by rw [em, z'] at w; cases w) (fun _ m2 f2 ac s => ⟨rfl, ⟨_, rfl⟩, ?_⟩)
    rw [Int.toNat_natCast, e115] at s
    have f2' : Fm [115, 116, 117, 118, 119, 124, 125] [6, 7, 8, 13, 14] m1 m2 := f2.sub (by decide) (by decide)
    have ar := k1.ar f2'
    have gT := gr_act gk ar
    have r0 : RC m2 (core m E C) (m.1 115) (m.2.1 116) := RC.gr gT i8 (by decide) (by decide) i4.1
    have e35 : (fun i => am_gR YL m2 35 i) = fun i => am_gR YL m 35 i := funext fun i => gT.R (by omega) (by decide) i
    have e36 : m2.1 36 = m.1 36 := gT.I (by omega) (by decide)
    have e40 : m2.1 40 = m.1 40 := gT.I (by omega) (by decide)
    have e92 : m2.1 92 = m.1 92 := gT.I (by omega) (by decide)
    have e116 : m2.2.1 116 = m.2.1 116 := by rw [f2.2.1 116 (by decide)]; exact (k1.fr gk i8 116 (by decide) (by decide) (by decide)).2
    have e39 : ∀ j, m2.1 39 j = if j = g then 1 else m.1 39 j := fun j => by rw [ar.I (by decide), am_pI_at]
    have rn : RN m2 E C := by
      have tl := i4.tail gT (by decide) 20 (E' := E) (fun i _ _ => congrFun e35 i) (fun f _ _ k _ => by rw [e36]) (fun f _ _ => by rw [gT.I (by omega) (by decide)]) (fun f hf _ => gT.J (by omega) (fun z => by simp only [UU, List.mem_append, List.mem_cons, List.not_mem_nil, or_false] at z; omega)) (fun f hf _ => hf) (fun w => absurd w (by omega)) (fun w => absurd w (by omega))
      refine ⟨?_, by rw [gT.I (by omega) (by decide)]; exact i4.2.1, by rw [gT.I (by omega) (by decide)]; exact i4.2.2.1, ?_, tl.1, tl.2⟩
      · rw [e35, e36, e40, e92, e116]
        refine ⟨fun i hi => (r0.places i hi).s (fun k hk => by rw [s, if_neg (by omega)]) (fun _ _ => rfl), fun i hi => by rw [s, if_neg (by omega)]; exact r0.joined i hi, r0.joins, ⟨hE.1, by rw [s, if_neg (by omega)]; exact hE.2⟩, fun f hf => ?_, fun f hf => by rw [s, if_neg (by omega)]; exact r0.again f hf, ⟨hC.1, by rw [s, if_neg (by omega)]; exact hC.2⟩, fun k hk => by rw [s, if_neg (by omega)]; exact r0.stands k hk, r0.patch⟩
        rw [s, e39]
        by_cases c : f = g
        · rw [if_pos c, if_pos (by omega)]
          exact ⟨Or.inr rfl, rfl⟩
        · rw [if_neg c, if_neg (by omega)]
          exact r0.outs f hf
      · rw [gT.I (by omega) (by decide), show (fun i => (am_gR YL m2 35 i).isSome) = fun i => (am_gR YL m 35 i).isSome from funext fun i => by rw [show am_gR YL m2 35 i = am_gR YL m 35 i from congrFun e35 i]]
        exact i4.2.2.2.1
    refine Inv.act (n := n) (E' := E) (C' := C) i1 i2 i4 i5 i6 i7 i8 i9 gk (by decide) (by decide) k1 f2' ac (i3.act i8 gk (by decide) ar (by rw [f2.2.2.1 5 (by decide), e109])) rn ?_ ?_
    · exact Or.inr (Or.inr (Or.inr (Or.inr (Or.inr (Or.inl ⟨rfl, g, rfl, gE⟩)))))
    · rw [Un_5, toN (by omega)]
      refine ⟨fun i hi => ⟨congrFun e35 i, congrFun e36 i⟩, rfl, fun f hf => ⟨?_, congrFun e40 f⟩, rfl, fun k hk => congrFun e92 k⟩
      show cup (m2.1 39) g 0 f = m.1 39 f
      unfold cup
      by_cases c : f = g
      · rw [if_pos c, c, b0.1]
      · rw [if_neg c, e39, if_neg c]
