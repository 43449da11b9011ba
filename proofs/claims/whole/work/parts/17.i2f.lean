/-! ===== Float.intBitsToFloat of a signalling NaN: which copy is drawn ===== -/
theorem am_i2f : am_I2F := by
  intro p la e R s mth args below meth c H locs cells slots Z pc ls cc own idx x rest d0 hd0 hexec hb hml hown hlink hnat hstat hinit hsn hframes hlocals hdg k
  intro T hT X
  obtain ⟨r, kS, methS, hnS, hmS, hkS, N⟩ := NativeOf.of_static hnat hstat (ps := [.int]) (ret := some .float) (by decide +kernel)
  have hinitS : kS.init = .initialized := Cond.initialized_spec (findClass_of_methodNamed hnS) hkS hinit
  obtain ⟨vm1, X1, step⟩ := X.invokestatic hexec hown hlink hnS hmS N.static hkS hinitS (by decide) (g := F0 mth pc ls (.int x :: rest)) rfl (argsL := [.int x]) (rest := rest) (by rw [N.sig]; rfl) rfl (by rw [hb]; exact hdg)
  obtain ⟨kS1, N1⟩ := N.alike X1.warmed.alike
  have hw : nativeFrameWords "java/lang/Float" "intBitsToFloat" 1 = 3 := by decide
  have hroom := X1.notFull (g := F0 mth pc ls rest) hml.symm (vars := nativeFrameWords "java/lang/Float" "intBitsToFloat" 1) hframes (by show 2 * 0 + (rest.map fun v => v.category).sum + _ ≤ _; omega)
  have hq : (if (e.choices (.named "NaN.copy") ((T.setVm vm1).drawn.count (.named "NaN.copy"))) % 2 == 0 then x.toUInt32 else x.toUInt32 ||| 0x00400000) = x.toUInt32 ∨ (if (e.choices (.named "NaN.copy") ((T.setVm vm1).drawn.count (.named "NaN.copy"))) % 2 == 0 then x.toUInt32 else x.toUInt32 ||| 0x00400000) = x.toUInt32 ||| 0x00400000 := by
    split
    · exact Or.inl rfl
    · exact Or.inr rfl
  generalize hqe : (if (e.choices (.named "NaN.copy") ((T.setVm vm1).drawn.count (.named "NaN.copy"))) % 2 == 0 then x.toUInt32 else x.toUInt32 ||| 0x00400000) = q at hq
  have hd1 : s.drawn.sameBut ((T.setVm vm1).drawn.next (.named "NaN.copy")) lw_cs := by
    have e1 : (T.setVm vm1).drawn = d0 := X.drawn_eq
    rw [e1]
    exact Drawn.sameBut.trans hd0 (Drawn.sameBut.mono (Drawn.next_named d0 "NaN.copy") (fun c hc => by
      simp only [List.mem_cons, List.not_mem_nil, or_false] at hc
      rw [hc]; exact List.mem_cons_of_mem _ List.mem_cons_self))
  have X2 := X1.drew ((T.setVm vm1).drawn.next (.named "NaN.copy"))
  obtain ⟨t, a1, b1⟩ := k q _ hq hd1 ((T.setVm vm1).setDrawn ((T.setVm vm1).drawn.next (.named "NaN.copy"))) hT X2
  refine ⟨t, step t fun acts => ?_, b1⟩
  have hseen : seenByNative methS #[.int x] = #[.int x] := by simp [seenByNative, N1.static, N1.sig, narrow]
  refine Steps.nativeEnds (g := F0 mth pc ls rest) (ig := .invokestatic idx) (len := 3) (row := Native.java_lang_Float.bits.rowIntBitsToFloat) (v := some (.float q)) (T := fun U => U.setDrawn (U.drawn.next (.named "NaN.copy"))) X1.here acts N1.cls N1.meth N1.boot N1.native N1.noCode N1.noLock
    (by rw [N1.className, N1.name, N1.desc]; exact intBitsToFloat_row p) (by rw [N1.className, N1.name]; exact hroom) (fun _ => rfl) rfl (fun _ => X1.here.code) ?_ (by rw [hb]; exact hdg) a1
  intro Q hq1
  rw [hseen] at hq1 ⊢
  rw [Native.java_lang_Float.bits.intBitsToFloat_on]
  have hsn2 : (x.toUInt32 &&& 0x7fffffff > 0x7f800000 && x.toUInt32 &&& 0x00400000 == 0) = true := hsn
  simp only [hsn2, if_true, choose, wp_bind', wp_choose, W.mark, wp_pure']
  have hfin := hq1 true []
  rw [← hqe] at hfin
  exact hfin
