/-! ===== minutes, way: one answer ===== -/
theorem P_minutes {m : am_M} (hI : Inv m) (k r c : Int) (hbk : -2147483648 ≤ k ∧ k ≤ 2147483647) (hbr : -2147483648 ≤ r ∧ r ≤ 2147483647) (hbc : -2147483648 ≤ c ∧ c ≤ 2147483647) : Pr 137 [some (.ref 3), some (.int (iI k)), some (.int (iI r)), some (.int (iI c)), none] 213 [some (.ref 109), some (.int (iI k)), some (.int (iI r)), some (.int (iI c))] m := by
  obtain ⟨n, E, C, tp, sz, lt, i1, i2, i3, i4, i5, i6, i7, i8, i9⟩ := id hI
  have ec : (cco m k && cth m r c) = (mco m k && mth m r c) := by rw [(A_crew i4 k).1, i1.th]
  refine S_cminutes m _ i1.1 i5 C (CS_of i4) k r c hbk hbr hbc (fun z => ?_) (fun z c4 m1 le1 f1 w1 t1 => ?_)
  · rw [ec] at z
    exact S_mminutes m _ i1.2.1 C (CR_of i4) k r c hbk hbr hbc (fun _ => ⟨rfl, ⟨_, rfl⟩, hI⟩) (fun w => by rw [z] at w; cases w)
  · rw [ec] at z
    have hI1 := hI.wy f1 w1
    have ar : Ar [87, 88, 89, 90] m m1 := Ar.ag f1 (fun _ z => z)
    have e115 : m1.1 115 = m.1 115 := ar.I (by decide)
    have j1 : Wd m1 := i1.fr ar (by decide)
    have r1 : RN m1 E C := i4.fr ar i8 (by decide) (by decide) (fun f hf z => by simp only [List.mem_cons, List.not_mem_nil, or_false] at z; omega)
    have z1 : (mco m1 k && mth m1 r c) = true := by
      unfold mco mth
      rw [e115, ar.I (a := 110) (by decide)]
      exact z
    have ma : mca m1 k.toNat = cat m k.toNat := by
      rw [((A_crew i4 k).2 (Bool.and_eq_true_iff.mp z).1).1]
      unfold mca
      rw [e115]
    have t1' : tab (ced m1) (cw m1) (16 * r + c).toNat (lvt m1) := by
      rw [show ced m1 = ced m from funext fun a => funext fun b => ced_fr (ar.J (by decide)) a b, show cw m1 = cw m from funext fun a => funext fun b => cw_fr (ar.I (by decide)) (ar.I (by decide)) a b]
      exact t1
    refine S_mminutes m1 _ j1.2.1 C (CR_of r1) k r c hbk hbr hbc (fun w => by rw [z1] at w; cases w) (fun _ m2 f2 fb t2 => ⟨?_, ⟨_, rfl⟩, hI1.scr (f2.sub (by decide) (by decide))⟩)
    have q := A_way j1 t1' t2 (cat m k.toNat)
    rw [ma]
    have e : lvt m1 (cat m k.toNat) = fv m2 (cat m k.toNat) := by
      have a := le1 (cat m k.toNat)
      have b := fvt_le fb (by decide) (cat m k.toNat)
      have c : fvt m2 (cat m k.toNat) = fv m2 (cat m k.toNat) := if_pos c4
      rw [← c]
      by_cases y : lvt m1 (cat m k.toNat) < 1000000000 ∨ fvt m2 (cat m k.toNat) < 1000000000
      · exact q y
      · omega
    rw [e]
theorem sok_eq {m : am_M} (hW : Wd m) {L : Nat → Nat} {a k : Nat} (ha : a < 256) (hk : k < 4) : sok (cbs m) (cw m) L a k = sok (mbd m) (mw m) L a k := by
  unfold sok
  rw [hW.bs]
  by_cases c : mbd m a k = -1
  · rw [decide_eq_false (fun w => w.1 c), decide_eq_false (fun w => w.1 c)]
  · have b := (cbs_b m ha hk).resolve_left (by rw [hW.bs]; exact c)
    rw [hW.bs] at b
    rw [hW.w (a := (mbd m a k).toNat) (b := a) (by omega) ha]
theorem nstk_s {bd : Nat → Nat → Int} {w : Nat → Nat → Nat} {L : Nat → Nat} {a d : Nat} : nstk bd w L a (d + 1) = if sok bd w L a (4 - (d + 1)) = true then bd a (4 - (d + 1)) else nstk bd w L a d := rfl
theorem nstk_0 {bd : Nat → Nat → Int} {w : Nat → Nat → Nat} {L : Nat → Nat} {a : Nat} : nstk bd w L a 0 = -1 := rfl
theorem nstk_eq {m : am_M} (hW : Wd m) {L : Nat → Nat} {a : Nat} (ha : a < 256) (d : Nat) : d ≤ 4 → nstk (cbs m) (cw m) L a d = nstk (mbd m) (mw m) L a d ∧ (nstk (mbd m) (mw m) L a d = -1 ∨ ∃ x : Nat, nstk (mbd m) (mw m) L a d = (x : Int) ∧ x < 256) := by
  induction d with
  | zero =>
    intro _
    rw [nstk_0, nstk_0]
    exact ⟨rfl, Or.inl rfl⟩
  | succ d ih =>
    intro hd
    obtain ⟨h1, h2⟩ := ih (by omega)
    have e := sok_eq hW (L := L) ha (show 4 - (d + 1) < 4 by omega)
    have y := cbs_b m ha (show 4 - (d + 1) < 4 by omega)
    rw [hW.bs] at y
    rw [nstk_s, nstk_s, e, hW.bs, h1]
    refine ⟨rfl, ?_⟩
    by_cases c : sok (mbd m) (mw m) L a (4 - (d + 1)) = true
    · rw [if_pos c]
      rcases y with z | z
      · exact Or.inl z
      · exact Or.inr ⟨(mbd m a (4 - (d + 1))).toNat, by omega, by omega⟩
    · rw [if_neg c]
      exact h2
theorem wlk_s {nx : Nat → Int} {g : Nat} {s : Int} {n : Nat} : wlk nx g s (n + 1) = if wlk nx g s n = -1 then -1 else if wlk nx g s n = (g : Int) then -1 else nx (wlk nx g s n).toNat := rfl
theorem wlk_0 {nx : Nat → Int} {g : Nat} {s : Int} : wlk nx g s 0 = s := rfl
theorem wlk_eq {m : am_M} (hW : Wd m) {L : Nat → Nat} {g a : Nat} (ha : a < 256) (n : Nat) : wlk (nst (cbs m) (cw m) L) g (a : Int) n = wlk (nst (mbd m) (mw m) L) g (a : Int) n ∧ (wlk (nst (mbd m) (mw m) L) g (a : Int) n = -1 ∨ ∃ x : Nat, wlk (nst (mbd m) (mw m) L) g (a : Int) n = (x : Int) ∧ x < 256) := by
  induction n with
  | zero =>
    rw [wlk_0, wlk_0]
    exact ⟨rfl, Or.inr ⟨a, rfl, ha⟩⟩
  | succ n ih =>
    obtain ⟨h1, h2⟩ := ih
    rw [wlk_s, wlk_s, h1]
    rcases h2 with z | ⟨x, z, hx⟩
    · rw [if_pos z, if_pos z]
      exact ⟨rfl, Or.inl rfl⟩
    · have hn : ¬ (x : Int) = -1 := by omega
      rw [z, if_neg hn, if_neg hn]
      by_cases c : (x : Int) = (g : Int)
      · rw [if_pos c, if_pos c]
        exact ⟨rfl, Or.inl rfl⟩
      · rw [if_neg c, if_neg c, Int.toNat_natCast]
        exact nstk_eq hW hx 4 (by omega)
theorem P_way {m : am_M} (hI : Inv m) (k r c i : Int) (hbk : -2147483648 ≤ k ∧ k ≤ 2147483647) (hbr : -2147483648 ≤ r ∧ r ≤ 2147483647) (hbc : -2147483648 ≤ c ∧ c ≤ 2147483647) (hbi : -2147483648 ≤ i ∧ i ≤ 2147483647) : Pr 138 [some (.ref 3), some (.int (iI k)), some (.int (iI r)), some (.int (iI c)), some (.int (iI i)), none] 216 [some (.ref 109), some (.int (iI k)), some (.int (iI r)), some (.int (iI c)), some (.int (iI i)), none, none, none, none, none, none] m := by
  obtain ⟨n, E, C, tp, sz, lt, i1, i2, i3, i4, i5, i6, i7, i8, i9⟩ := id hI
  have ec : (cco m k && cth m r c) = (mco m k && mth m r c) := by rw [(A_crew i4 k).1, i1.th]
  refine S_cway m _ i1.1 i5 C (CS_of i4) k r c i hbk hbr hbc hbi (fun z => ?_) (fun z c4 m1 L le1 f1 w1 t1 => ?_)
  · rw [ec] at z
    exact S_mway m _ i1.2.1 C (CR_of i4) k r c i hbk hbr hbc hbi (fun _ => ⟨rfl, ⟨_, rfl⟩, hI⟩) (fun w => by rw [z, Bool.and_false] at w; cases w)
  · rw [ec] at z
    have hI1 := hI.wy f1 w1
    have ar : Ar [87, 88, 89, 90] m m1 := Ar.ag f1 (fun _ z => z)
    have e115 : m1.1 115 = m.1 115 := ar.I (by decide)
    have j1 : Wd m1 := i1.fr ar (by decide)
    have r1 : RN m1 E C := i4.fr ar i8 (by decide) (by decide) (fun f hf z => by simp only [List.mem_cons, List.not_mem_nil, or_false] at z; omega)
    have z1 : (mco m1 k && mth m1 r c) = true := by
      unfold mco mth
      rw [e115, ar.I (a := 110) (by decide)]
      exact z
    have ma : mca m1 k.toNat = cat m k.toNat := by
      rw [((A_crew i4 k).2 (Bool.and_eq_true_iff.mp z).1).1]
      unfold mca
      rw [e115]
    have e1 : ced m1 = ced m := funext fun a => funext fun b => ced_fr (f1.J (by decide)) a b
    have e2 : cw m1 = cw m := funext fun a => funext fun b => cw_fr (f1.I (by decide)) (f1.I (by decide)) a b
    have e3 : cbs m1 = cbs m := funext fun a => funext fun b => cbs_fr (f1.J (by decide)) a b
    refine S_mway m1 _ j1.2.1 C (CR_of r1) k r c i hbk hbr hbc hbi (fun w => ⟨?_, ⟨_, rfl⟩, hI1⟩) (fun w m2 X leX f2 t2 => ⟨?_, ⟨_, rfl⟩, hI1.scr (f2.sub (by decide) (by decide))⟩)
    · rw [z1, Bool.and_true] at w
      have := of_decide_eq_false w
      rw [if_neg (fun y => this y.1)]
      rfl
    · have hi := of_decide_eq_true (Bool.and_eq_true_iff.mp w).1
      have eL : L = X := by
        funext q
        have a := le1 q
        have b := leX q
        by_cases y : L q < 1000000000 ∨ X q < 1000000000
        · exact A_way j1 (by rw [e1, e2]; exact t1) t2 q y
        · omega
      rw [ma, eL, ← e2, ← e3, (wlk_eq j1 c4 i.toNat).1]
      by_cases y : X (cat m k.toNat) < 1000000000
      · rw [if_pos y, if_pos ⟨hi, y⟩]
      · rw [if_neg y, if_neg (fun v => y v.2)]
