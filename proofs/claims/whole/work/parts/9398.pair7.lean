/-! ===== check, next, send: one answer ===== -/
theorem P_check {m : am_M} (hI : Inv m) : Pr 145 [some (.ref 3), none] 225 [some (.ref 109), none, none, none, none] m := by
  obtain ⟨n, E, C, tp, sz, lt, i1, i2, i3, i4, i5, i6, i7, i8, i9⟩ := id hI
  refine S_ccheck m _ i4.bk i4.sg (fun m1 f1 => ?_)
  have ar : Ar [108] m m1 := Ar.ag f1 (fun _ z => z)
  have e115 : m1.1 115 = m.1 115 := ar.I (by decide)
  have hI1 : Inv m1 := hI.fr ar (by decide) (by decide) (fun f hf z => by simp only [List.mem_cons, List.not_mem_nil, or_false] at z; omega) (fun t ht z => by simp only [List.mem_cons, List.not_mem_nil, or_false] at z; omega) (by rw [ar.I (by decide)]) (by rw [ar.I (by decide)]) (by rw [ar.I (by decide)]) (fun k f hf => by rw [ar.I (by decide), ar.I (by decide)]; exact k f hf) (fun k j hj => by rw [ar.I (by decide), ar.I (by decide)]; exact k j hj)
  have e : chk (csg m) (m.1 37) (has m) (cak m) = chk (fun i => msi m1 (i : Int)) (m1.1 132) (fun i => wb (mv m1 116 i)) (mak m1) := by
    refine chk_cong (fun j hj => ?_) (fun j hj => ?_) (fun j q hj hq hs => ?_) (fun i j hi hj h1 h2 => ?_)
    · rw [i4.si hj]
      unfold msi
      rw [e115]
    · rw [ar.I (a := 132) (by decide)]
      exact i7 j hj
    · rw [i4.hs hj hq hs]
      unfold mv
      rw [ar.J (a := 116) (by decide)]
    · rw [i4.al hj hi h2 h1, mak_sym]
      unfold mak
      rw [e115]
  refine S_mcheck m1 _ (fun m2 f2 => ⟨?_, ⟨_, rfl⟩, hI1.scr (f2.sub (by decide) (by decide))⟩)
  rw [e]
theorem TI.fr2 {m m2 : am_M} (e5 : m2.1 5 = m.1 5) (e8 : m2.2.1 8 = m.2.1 8) (e9 : m2.1 9 = m.1 9) (e10 : m2.1 10 = m.1 10) (e11 : m2.1 11 = m.1 11) (e17 : m2.2.1 17 = m.2.1 17) {n : Nat} (hk : tk_ok m2 n) (h : TI m n) : TI m2 n := by
  obtain ⟨h1, h2, h3, h4⟩ := h
  have eb := cbl_fe e8 e5 e10 e11
  refine ⟨?_, hk, fun hz q hq => ?_, fun hz => ?_⟩
  · unfold tw_ok at h1 ⊢
    rw [e9, e10, e11]
    exact h1
  · rw [e9] at hz
    rw [e17, eb]
    exact h3 hz q hq
  · rw [e9] at hz ⊢
    have e : cbest m2 n = cbest m n := by
      unfold cbest
      rw [e8]
      have : cnew m2 n = cnew m n := by
        funext q
        unfold cnew
        exact fb_ct_cong (fun k _ => by rw [eb, cf_fr e8 e5])
      rw [this]
    rw [e]
    exact h4 hz
theorem A_burn {m : am_M} {E C : Nat} (h : RN m E C) (f : Int) : cst m f = 0 ↔ mouok m f = true := by
  have hE := h.1.ever.1
  have fo := h.fo f
  have cb := cst_b m f
  unfold mouok
  cases z : mfo m f with
  | false =>
    rw [Bool.false_and]
    have : cst m f = -1 := by
      unfold cst
      rw [fo.1, z]
      rfl
    rw [this]
    exact ⟨fun w => absurd w (by decide), fun w => by cases w⟩
  | true =>
    have y := fo.2.mp z
    obtain ⟨n, rfl⟩ : ∃ n : Nat, f = (n : Int) := ⟨f.toNat, by omega⟩
    rw [Bool.true_and, Int.toNat_natCast, ← h.st (show n < E by omega), show (0 : Int32) = iI 0 from rfl]
    exact (iI_eq (by omega) (by omega) (by omega) (by omega)).symm.trans decide_eq_true_iff.symm
theorem A_nx {m : am_M} {n E C : Nat} (hW : Wd m) (hT : Tw m n) (h : RN m E C) {f : Int} (hf : mouok m f = true) : (nxw (fun k => gre (cnp m (pch m f) k) (fb_ct (wb (m.2.1 (pch m f + 1))) 256)) 257 (8 * n)).1 = (nxw (fun k => gre (mnp m (iI f) k) (fb_ct (mpt m (iI f) 60) 256)) 1000000000 (8 * n)).1 := by
  have hE := h.1.ever.1
  have fo := h.fo f
  have z := (Bool.and_eq_true_iff.mp hf).1
  have y := fo.2.mp z
  obtain ⟨g, rfl⟩ : ∃ n : Nat, f = (n : Int) := ⟨f.toNat, by omega⟩
  have ep : pch m (g : Int) + 1 = 48 + 2 * g := by
    unfold pch
    rw [fo.1, if_pos z, Int.toNat_natCast]
    omega
  have pt : ∀ q, q < 256 → wb (m.2.1 (48 + 2 * g)) q = mpt m (iI (g : Int)) 60 q := fun q hq => by rw [h.2.2.2.2.2 g (by omega) q hq, h.pt (by omega) hq]
  refine (nxw_eq (W := 1000000000) (by decide) (fun k => gre_b _ (fb_ct_le _ 256)) (n := 8 * n) (fun k hk => ?_) (8 * n) (Nat.le_refl _)).1
  rw [ep, fb_ct_cong pt]
  refine gre_cong _ (fun q hq => ?_)
  have ht : k / 8 < n := by omega
  unfold cnp mnp
  rw [ep, pt q hq, hT.see hW ht hq]
  have x := hT.b ht
  unfold mlk mse near
  rw [x.1, show mth m ((q / 16 : Nat) : Int) ((q % 16 : Nat) : Int) = mt m q from rfl, decide_eq_true (show (-1 : Int) < 0 by decide), Bool.true_or, Bool.true_and, Bool.not_true, Bool.false_or]
  cases mt m q <;> cases mpt m (iI (g : Int)) 60 q <;> cases icone (mbs m (k / 8)) q (ldn (k % 8)) (lrt (k % 8)) 41 <;> cases decide (mf m (mbs m (k / 8)) (mab m (k / 8)) q = -1) <;> rfl
theorem P_next {m : am_M} (hI : Inv m) (f : Int) (hbf : -2147483648 ≤ f ∧ f ≤ 2147483647) : Pr 133 [some (.ref 3), some (.int (iI f)), none, none, none, none, none, none, none, none] 207 [some (.ref 109), some (.int (iI f)), none, none, none, none, none, none, none, none] m := by
  obtain ⟨n, E, C, tp, sz, lt, i1, i2, i3, i4, i5, i6, i7, i8, i9⟩ := id hI
  have hE := i4.1.ever
  have gd := A_burn i4 f
  refine S_cnext m _ i2 n i3.1.1 i3.1.2.1 i1.1.h f hbf (fun z => ?_) (fun z m1 f1 t1 => ?_)
  · exact S_mnext m _ i1.2.1 E hE.1 hE.2 n i3.2.1 f hbf (fun _ => ⟨rfl, ⟨_, rfl⟩, hI⟩) (fun w => absurd (gd.mpr w) z)
  · have z' := gd.mp z
    have ar : Ar [12, 19, 21, 23, 25, 27, 29, 31, 33, 108] m m1 := Ar.ag f1 (fun _ z => z)
    have hT1 : Tw m1 n := by
      refine ⟨i3.1.fr2 (ar.I (by decide)) (ar.J (by decide)) (ar.I (by decide)) (ar.I (by decide)) (ar.I (by decide)) (ar.J (by decide)) t1, ?_, fun x hx => ?_⟩
      · have := i3.2.1
        unfold mtw at this ⊢
        rw [ar.I (a := 109) (by decide), ar.I (a := 113) (by decide), ar.I (a := 114) (by decide)]
        exact this
      · rw [ar.I (a := 10) (by decide), ar.I (a := 11) (by decide), ar.I (a := 113) (by decide), ar.I (a := 114) (by decide)]
        exact i3.2.2 x hx
    have hI1 : Inv m1 := hI.fg ar (by decide) (by decide) (fun f hf z => by simp only [List.mem_cons, List.not_mem_nil, or_false] at z; omega) (fun k t => by rw [← Tw_n i3 t]; exact hT1) (fun w => w.fe (ar.I (by decide)) (ar.I (by decide)) (ar.J (by decide)) (ar.I (by decide)) (ar.I (by decide)) (ar.I (by decide))) (by rw [ar.I (by decide)]) (by rw [ar.I (by decide)]) (fun k f hf => by rw [ar.I (by decide), ar.I (by decide)]; exact k f hf) (fun k j hj => by rw [ar.I (by decide), ar.I (by decide)]; exact k j hj)
    have j1 : Wd m1 := i1.fr ar (by decide)
    have e110 : m1.1 110 = m.1 110 := ar.I (by decide)
    have e111 : m1.1 111 = m.1 111 := ar.I (by decide)
    have e113 : m1.1 113 = m.1 113 := ar.I (by decide)
    have e114 : m1.1 114 = m.1 114 := ar.I (by decide)
    have e115 : m1.1 115 = m.1 115 := ar.I (by decide)
    have e116 : m1.2.1 116 = m.2.1 116 := ar.J (by decide)
    have em : mouok m1 f = mouok m f := by
      unfold mouok mfo
      rw [e115]
    have ep : mpt m1 (iI f) 60 = mpt m (iI f) 60 := funext fun q => mpt_fe e115 e116 _ _ _
    have en : (fun k => gre (mnp m1 (iI f) k) (fb_ct (mpt m1 (iI f) 60) 256)) = fun k => gre (mnp m (iI f) k) (fb_ct (mpt m (iI f) 60) 256) := by
      funext k
      rw [ep]
      refine gre_cong _ (fun q _ => ?_)
      unfold mnp mlk mbs mab mf mth
      rw [ep, e110, e111, e113, e114]
    refine S_mnext m1 _ j1.2.1 E hE.1 (by rw [e115]; exact hE.2) n hT1.2.1 f hbf (fun w => by rw [em, z'] at w; cases w) (fun _ m2 f2 => ⟨?_, ⟨_, rfl⟩, hI1.scr (f2.sub (by decide) (by decide))⟩)
    rw [en, ← A_nx i1 i3 i4 z']
