/-! ===== the reference: way, log ===== -/
theorem mbd_sym {m : am_M} (hL : ML m) {a s : Nat} (h : med m a s = true) : ∃ k, k < 4 ∧ mbd m s k = (a : Int) := by
  obtain ⟨ha, hta, k, hk, hb⟩ := med_k h
  have key : ∀ (dr dc dr' dc' : Int) (k' : Nat), k' < 4 → dr' = -dr → dc' = -dc → (mth m ((a : Int) / 16 + dr) ((a : Int) % 16 + dc) = true → (16 * ((a : Int) / 16 + dr) + ((a : Int) % 16 + dc)) = (s : Int) → mbd m s k' = (if mth m ((s : Int) / 16 + dr') ((s : Int) % 16 + dc') then 16 * ((s : Int) / 16 + dr') + ((s : Int) % 16 + dc') else -1) → mbd m s k' = (a : Int)) := by
    intro dr dc dr' dc' k' hk' e1 e2 h1 h2 h3
    have hb := mth_b hL h1
    have r1 : (s : Int) / 16 + dr' = (a : Int) / 16 := by omega
    have r2 : (s : Int) % 16 + dc' = (a : Int) % 16 := by omega
    rw [h3, r1, r2]
    have : mth m ((a : Int) / 16) ((a : Int) % 16) = true := hta
    rw [if_pos this]
    omega
  have hb0 := hb
  unfold mbd at hb
  dsimp only at hb
  by_cases c : mth m ((a : Int) / 16 + (if k = 0 then -1 else if k = 3 then 1 else 0)) ((a : Int) % 16 + (if k = 1 then -1 else if k = 2 then 1 else 0)) = true
  · rw [if_pos c] at hb
    match k, hk with
    | 0, _ => exact ⟨3, by decide, key (-1) 0 1 0 3 (by decide) (by decide) (by decide) c hb rfl⟩
    | 1, _ => exact ⟨2, by decide, key 0 (-1) 0 1 2 (by decide) (by decide) (by decide) c hb rfl⟩
    | 2, _ => exact ⟨1, by decide, key 0 1 0 (-1) 1 (by decide) (by decide) (by decide) c hb rfl⟩
    | 3, _ => exact ⟨0, by decide, key 1 0 (-1) 0 0 (by decide) (by decide) (by decide) c hb rfl⟩
  · rw [if_neg c] at hb
    omega
theorem mstp {m : am_M} (hW : MW m) {g : Nat} {L : Nat → Nat} (h : tab (med m) (mw m) g L) : stp (nst (mbd m) (mw m) L) L g := by
  refine nst_stp (mgr hW) h (fun a s => mbd_sym hW.2.2.2) (fun s k hs hk => ?_) (fun s k hs hk hne => ?_)
  · rcases mbd_b hW.2.2.2 hs hk with z | z
    · exact Or.inl z
    · exact Or.inr ⟨z.1, z.2.1⟩
  · have hb := (mbd_b hW.2.2.2 hs hk).resolve_left hne
    have := (mwi_b hW (a := (mbd m s k).toNat) (b := s) (by omega) hs).2.2 hb.2.2
    unfold mw
    omega
theorem fvt_le {m : am_M} {B : Nat} (h : FB m B) (hB : B ≤ 1000000000) (q : Nat) : fvt m q ≤ 1000000000 := by
  unfold fvt
  by_cases c : q < 256
  · rw [if_pos c]
    rcases (h q c).2 with z | z <;> omega
  · rw [if_neg c]
    exact Nat.le_refl _
theorem S_mway (m : am_M) (Q : Option Value → am_M → Prop) (hW : MW m) (C : Nat) (hC : CR m C) (k r c i : Int) (hbk : -2147483648 ≤ k ∧ k ≤ 2147483647) (hbr : -2147483648 ≤ r ∧ r ≤ 2147483647) (hbc : -2147483648 ≤ c ∧ c ≤ 2147483647) (hbi : -2147483648 ≤ i ∧ i ≤ 2147483647)
    (h0 : (decide (0 ≤ i) && (mco m k && mth m r c)) = false → Q (some (.int (-1))) m)
    (h1 : (decide (0 ≤ i) && (mco m k && mth m r c)) = true → ∀ m1 L, (∀ q, L q ≤ 1000000000) → Fm [124, 125] [] m m1 → tab (med m) (mw m) (16 * r + c).toNat L → Q (some (.int (iI (if L (mca m k.toNat) < 1000000000 then wlk (nst (mbd m) (mw m) L) (16 * r + c).toNat (mca m k.toNat : Int) i.toNat else -1)))) m1) :
    am_WP YL 216 0 0 0 [some (.ref 109), some (.int (iI k)), some (.int (iI r)), some (.int (iI c)), some (.int (iI i)), none, none, none, none, none, none] [] m Q := by
  have hC8 := hC.1
  refine B_X11_way_0 m Q _ _ _ _ ?_
  rw [show (0 : Int32) = iI 0 from rfl, iI_lt (by omega) (by omega) (by omega) (by omega)]
  refine ⟨fun z => h0 (by rw [decide_eq_false (by omega), Bool.false_and]), fun z0 => ?_⟩
  rw [decide_eq_true (show 0 ≤ i by omega), Bool.true_and] at h0 h1
  refine S_mminutes m _ hW C hC k r c hbk hbr hbc (fun z => B_X11_way_12 m Q _ _ _ _ _ ⟨fun y => absurd rfl y, fun _ => h0 z⟩) (fun z m1 f1 fb tb => B_X11_way_12 m1 Q _ _ _ _ _ ?_)
  have z3 := (Bool.and_eq_true_iff.mp z).1
  have z2 := (Bool.and_eq_true_iff.mp z).2
  rw [mco_C hC] at z3
  have y1 := of_decide_eq_true z3
  have hb := mth_b hW.2.2.2 z2
  have ca := hC.at (show k.toNat < C by omega)
  have ef : ∀ q, q < 256 → fvt m1 q = fv m1 q := fun q hq => if_pos hq
  obtain ⟨g, hg⟩ : ∃ g : Nat, 16 * r + c = (g : Int) := ⟨(16 * r + c).toNat, by omega⟩
  have hg2 : g < 256 := by omega
  rw [hg, Int.toNat_natCast] at tb
  have h1 := h1 z m1 (fvt m1) (fvt_le fb (by decide)) f1 (by rw [hg, Int.toNat_natCast]; exact tb)
  rw [hg, Int.toNat_natCast] at h1
  have W1 : MW m1 := hW.fr f1 (by decide) (by decide) (by decide)
  have emb : ∀ a j, mbd m1 a j = mbd m a j := fun a j => mbd_fr f1 (by decide) a j
  have emw : ∀ a b, mw m1 a b = mw m a b := fun a b => mw_fr f1 (by decide) (by decide) a b
  have st := mstp hW tb
  by_cases cz : fv m1 (mca m k.toNat) = 1000000000
  · rw [if_pos cz]
    rw [if_neg (by rw [ef _ ca.2, cz]; omega)] at h1
    exact ⟨fun y => absurd rfl y, fun _ => h1⟩
  · rw [if_neg cz]
    have fb1 := fb (mca m k.toNat) ca.2
    have lt1 : fv m1 (mca m k.toNat) ≤ 460 * 256 := by rcases fb1.2 with w | w; exact absurd w cz; exact w
    have hl : fvt m1 (mca m k.toNat) < 1000000000 := by rw [ef _ ca.2]; omega
    rw [if_pos hl] at h1
    refine ⟨fun _ => ?_, fun y => absurd ((iI_eq (b := -1) (by omega) (by omega) (by omega) (by omega)).mp y) (by omega)⟩
    rw [show (340 : Int32) = iI 340 from rfl, iI_add, iI_cl (by omega) (by omega), iI_in (by omega) (by omega), show (340 + k).toNat = 340 + k.toNat by omega, f1.1 115 (by decide) (by decide), ca.1, show (16 : Int32) = iI 16 from rfl, iI_mul, iI_add, hg]
    refine ⟨by omega, ?_⟩
    obtain ⟨i, rfl⟩ : ∃ n : Nat, i = n := ⟨i.toNat, by omega⟩
    rw [Int.toNat_natCast] at h1
    have wb0 : ∀ n, wlk (nst (mbd m) (mw m) (fvt m1)) g (mca m k.toNat : Int) n = -1 ∨ ∃ a : Nat, wlk (nst (mbd m) (mw m) (fvt m1)) g (mca m k.toNat : Int) n = (a : Int) ∧ a < 256 ∧ fvt m1 a < 1000000000 := by
      intro n
      by_cases c : wlk (nst (mbd m) (mw m) (fvt m1)) g (mca m k.toNat : Int) n = -1
      · exact Or.inl c
      · obtain ⟨a, h1, h2, h3, _⟩ := wlk_cnt st ca.2 hl n c
        exact Or.inr ⟨a, h1, h2, h3⟩
    have := lp (N := i) (W := fun n (_ : Unit) => am_WP YL 216 0 0 41 [some (.ref 109), none, none, none, some (.int (iI (i : Int))), some (.int (iI (wlk (nst (mbd m) (mw m) (fvt m1)) g (mca m k.toNat : Int) n))), some (.int (iI (g : Int))), some (.int (iI (n : Int))), none, none, none] [] m1 Q) (fun n _ => wlk (nst (mbd m) (mw m) (fvt m1)) g (mca m k.toNat : Int) n ≠ -1) (s := ()) (by show (mca m k.toNat : Int) ≠ -1; omega) ?_ ?_
    · exact this
    · intro n _ hn hne ih
      have ih := ih ()
      obtain ⟨a, v1, v2, v3⟩ := (wb0 n).resolve_left hne
      have e1 : wlk (nst (mbd m) (mw m) (fvt m1)) g (mca m k.toNat : Int) (n + 1) = if (a : Int) = (g : Int) then -1 else nst (mbd m) (mw m) (fvt m1) a := by
        show (if wlk (nst (mbd m) (mw m) (fvt m1)) g (mca m k.toNat : Int) n = -1 then -1 else if wlk (nst (mbd m) (mw m) (fvt m1)) g (mca m k.toNat : Int) n = (g : Int) then -1 else nst (mbd m) (mw m) (fvt m1) (wlk (nst (mbd m) (mw m) (fvt m1)) g (mca m k.toNat : Int) n).toNat) = _
        rw [v1, if_neg (by omega), Int.toNat_natCast]
      rw [e1] at ih
      rw [v1]
      refine B_X11_way_41 m1 Q _ _ _ _ ?_
      rw [iI_le (by omega) (by omega) (by omega) (by omega), iI_eq (by omega) (by omega) (by omega) (by omega)]
      refine ⟨fun w => by omega, fun _ => ⟨fun w => ?_, fun w => ?_⟩⟩
      · rw [if_neg w] at ih
        obtain ⟨b0, s1, s2, s3⟩ := st a v2 v3 (fun e => w (by rw [e]))
        have ih := ih (by rw [s1]; omega)
        have la := fb a v2
        have la2 : fv m1 a ≤ 460 * 256 := by
          rcases la.2 with u | u
          · rw [ef a v2] at v3; omega
          · exact u
        have key : ∀ e, e ≤ 4 → am_WP YL 216 0 0 63 [some (.ref 109), none, none, none, some (.int (iI (i : Int))), some (.int (iI (a : Int))), some (.int (iI (g : Int))), some (.int (iI (n : Int))), some (.int (iI (nstk (mbd m) (mw m) (fvt m1) a e))), some (.int (iI ((3 - e : Int)))), none] [] m1 Q := by
          intro e he
          obtain ⟨d, hd⟩ : ∃ d, e + d = 4 := ⟨4 - e, by omega⟩
          induction d generalizing e with
          | zero =>
            obtain rfl : e = 4 := by omega
            refine B_X11_way_63 m1 Q _ _ _ _ _ _ ⟨fun _ => ?_, fun u => absurd (show iI (3 - ((4 : Nat) : Int)) < (0 : Int32) by decide) u⟩
            rw [iI_i1]
            exact ih
          | succ d ihd =>
            obtain ⟨j, hj⟩ : ∃ j, j + e = 3 := ⟨3 - e, by omega⟩
            have ej : (3 - (e : Int)) = (j : Int) := by omega
            have hj4 : j < 4 := by omega
            have nx : ∀ v, v = nstk (mbd m) (mw m) (fvt m1) a (e + 1) → am_WP YL 216 0 0 63 [some (.ref 109), none, none, none, some (.int (iI (i : Int))), some (.int (iI (a : Int))), some (.int (iI (g : Int))), some (.int (iI (n : Int))), some (.int (iI v)), some (.int (iI (j : Int) + (-1))), none] [] m1 Q := by
              intro v hv
              rw [hv, show (-1 : Int32) = iI (-1) from rfl, iI_add, show (j : Int) + -1 = 3 - ((e + 1 : Nat) : Int) by omega]
              exact ihd (e + 1) (by omega) (by omega)
            have en : nstk (mbd m) (mw m) (fvt m1) a (e + 1) = if sok (mbd m) (mw m) (fvt m1) a j = true then mbd m a j else nstk (mbd m) (mw m) (fvt m1) a e := by
              show (if sok (mbd m) (mw m) (fvt m1) a (4 - (e + 1)) = true then mbd m a (4 - (e + 1)) else _) = _
              rw [show 4 - (e + 1) = j by omega]
            rw [ej]
            refine B_X11_way_63 m1 Q _ _ _ _ _ _ ⟨fun u => absurd ((iI_lt (b := 0) (by omega) (by omega) (by omega) (by omega)).mp u) (by omega), fun _ => S_mbeside m1 _ a j v2 hj4 (B_X11_way_76 m1 Q _ _ _ _ _ _ _ ?_)⟩
            rw [emb]
            have hcb := mbd_b hW.2.2.2 v2 hj4
            have no : sok (mbd m) (mw m) (fvt m1) a j = false → am_WP YL 216 0 0 63 [some (.ref 109), none, none, none, some (.int (iI (i : Int))), some (.int (iI (a : Int))), some (.int (iI (g : Int))), some (.int (iI (n : Int))), some (.int (iI (nstk (mbd m) (mw m) (fvt m1) a e))), some (.int (iI (j : Int) + (-1))), none] [] m1 Q := fun u => nx _ (by rw [en, u]; rfl)
            refine ⟨fun u => no (decide_eq_false (fun t => t.1 ?_)), fun u => ?_⟩
            · exact (iI_eq (b := -1) (by omega) (by omega) (by omega) (by omega)).mp u
            · have hcb := hcb.resolve_left (fun t => u (by rw [t]; rfl))
              obtain ⟨b, hbe⟩ : ∃ b : Nat, mbd m a j = (b : Int) := ⟨(mbd m a j).toNat, by omega⟩
              have hb2 : b < 256 := by omega
              have lb := fb b hb2
              have lb3 : fv m1 b ≤ 1000000000 := by rcases lb.2 with t | t <;> omega
              have hmw := mwi_b hW hb2 v2
              have hmw2 : mw m a b ≤ 460 := by unfold mw; omega
              have hok : sok (mbd m) (mw m) (fvt m1) a j = decide (fv m1 b < 1000000000 ∧ fv m1 b + mw m a b = fv m1 a) := by
                unfold sok
                rw [hbe, Int.toNat_natCast, ef b hb2, ef a v2]
                exact decide_eq_decide.mpr ⟨fun y => y.2, fun y => ⟨by omega, y⟩⟩
              rw [hbe, iI_cl (by omega) (by omega), Int.toNat_natCast, iI_in (by omega) (by omega), lb.1, show (1000000000 : Int32) = iI 1000000000 from rfl, iI_le (by omega) (by omega) (by omega) (by omega)]
              refine ⟨by omega, fun t => no (by rw [hok]; exact decide_eq_false (fun p => by omega)), fun t => S_mstep m1 _ W1 a b v2 hb2 (B_X11_way_104 m1 Q _ _ _ _ _ _ _ _ ?_)⟩
              rw [emw, iI_cl (by omega) (by omega), iI_cl (by omega) (by omega), Int.toNat_natCast, Int.toNat_natCast, iI_in (by omega) (by omega), iI_in (by omega) (by omega), lb.1, la.1, iI_add, iI_eq (by omega) (by omega) (by omega) (by omega)]
              refine ⟨by omega, by omega, fun p => no (by rw [hok]; exact decide_eq_false (fun p2 => by omega)), fun p => ?_⟩
              refine nx (b : Int) ?_
              rw [en, if_pos (by rw [hok]; exact decide_eq_true ⟨by omega, by omega⟩), hbe]
        have := key 0 (by omega)
        exact this
      · have e2 : wlk (nst (mbd m) (mw m) (fvt m1)) g (mca m k.toNat : Int) (n + 1) = -1 := by rw [e1, if_pos w]
        have := wlk_none e2 (i - (n + 1))
        rw [show n + 1 + (i - (n + 1)) = i by omega] at this
        rw [this] at h1
        exact h1
    · intro _ _
      exact B_X11_way_41 m1 Q _ _ _ _ ⟨fun _ => h1, fun w => absurd ((iI_le (by omega) (by omega) (by omega) (by omega)).mpr (Int.le_refl _)) w⟩
/-- the reference's log -/
def mlog (m : am_M) (i w : Int) (E : Nat) : Int32 := if inR i 0 59 = false then -1 else if w = 0 then m.1 115 i.toNat else if m.1 115 i.toNat = 6 then -1 else if m.1 115 i.toNat = 5 then (if w = 1 then m.1 115 (60 + i.toNat) else -1) else
  if w = 1 then m.1 115 (60 + i.toNat) else if w = 2 then m.1 115 (120 + i.toNat) else if w = 3 then iI (fb_ct (wb (mv m 116 i.toNat)) 256 : Int) else if w = 4 then m.1 115 (180 + i.toNat) else if w = 5 then m.1 115 (240 + i.toNat) else if w = 6 then iI (fb_ct (fun f => mfits m i (f : Int)) E : Int) else -1
theorem mfits_fr {m m1 : am_M} (h : Fm [119] [] m m1) (i f : Int) : mfits m1 i f = mfits m i f := by
  have e115 : m1.1 115 = m.1 115 := h.1 115 (by decide) (by decide)
  have e116 : m1.2.1 116 = m.2.1 116 := h.2.1 116 (by decide)
  have ej : ∀ g, mjn m1 g = mjn m g := by
    intro g
    funext k
    unfold mjn msi
    rw [e115]
  have ep : ∀ g k q, mal m1 g k q = mal m g k q := by
    intro g k q
    induction k with
    | zero => rfl
    | succ k ihk =>
      show (mal m1 _ k q && _) = (mal m _ k q && _)
      rw [ihk, ej]
      unfold mv
      rw [e116]
  have ec : ∀ j g k, mcl m1 j g k = mcl m j g k := by
    intro j g k
    induction k with
    | zero => rfl
    | succ k ihk =>
      show (mcl m1 j g k || _) = (mcl m j g k || _)
      rw [ihk, ej]
      unfold mak
      rw [e115]
  have em : ∀ g k, mpt m1 g k = mpt m g k := by
    intro g k
    funext q
    unfold mpt
    rw [ep, ej]
  unfold mfits msi mfo mv
  rw [ec, em, e115, e116]
theorem S_mlog (m : am_M) (Q : Option Value → am_M → Prop) (E : Nat) (hE : E ≤ 20) (h348 : m.1 115 348 = iI (E : Int)) (i w : Int) (hbi : -2147483648 ≤ i ∧ i ≤ 2147483647) (hbw : -2147483648 ≤ w ∧ w ≤ 2147483647) (h : ∀ m1, Fm [119] [] m m1 → Q (some (.int (mlog m i w E))) m1) : am_WP YL 188 0 0 0 [some (.ref 109), some (.int (iI i)), some (.int (iI w)), none, none, none] [] m Q := by
  refine B_X11_log_0 m Q _ _ ?_
  simp only [iI_lit]
  refine S_isIn m _ i 0 59 (by omega) (by omega) (by omega) (by omega) (by omega) (by omega) (B_X11_log_7 m Q _ _ _ (bz' (fun z => ?_) (fun z1 => ?_)))
  · have := h m (Fm.rf _ _ m)
    unfold mlog at this
    rw [if_pos z] at this
    exact this
  have y1 := of_decide_eq_true z1
  obtain ⟨i, rfl⟩ : ∃ n : Nat, i = n := ⟨i.toNat, by omega⟩
  unfold mlog at h
  rw [z1, if_neg (by decide), Int.toNat_natCast] at h
  have h9 := h m (Fm.rf _ _ m)
  have e0 : ((0 : Int32) + iI (i : Int)) = iI (i : Int) := by rw [show (0 : Int32) = iI 0 from rfl, iI_add, Int.zero_add]
  have e1 : ((60 : Int32) + iI (i : Int)) = iI ((60 + i : Nat) : Int) := iI_add 60 _
  have e2 : ((120 : Int32) + iI (i : Int)) = iI ((120 + i : Nat) : Int) := iI_add 120 _
  have e3 : ((180 : Int32) + iI (i : Int)) = iI ((180 + i : Nat) : Int) := iI_add 180 _
  have e4 : ((240 : Int32) + iI (i : Int)) = iI ((240 + i : Nat) : Int) := iI_add 240 _
  have cl : ∀ a : Nat, a < 350 → (iI (a : Int)).toNatClampNeg = a := fun a ha => by rw [iI_cl (by omega) (by omega), Int.toNat_natCast]
  have vi : ∀ a : Nat, a < 350 → vp_in (iI (a : Int)) 350 := fun a ha => (iI_in (by omega) (by omega)).mpr (by omega)
  rw [e0, e1, e2, e3, e4, cl i (by omega), cl _ (by omega), cl _ (by omega), cl _ (by omega), cl _ (by omega), iI_to (by omega) (by omega), show (0 : Int32) = iI 0 from rfl, iI_eq (a := w) (b := 0) (by omega) (by omega) (by omega) (by omega), show (1 : Int32) = iI 1 from rfl, iI_eq (a := w) (b := 1) (by omega) (by omega) (by omega) (by omega)]
  have no5 : m.1 115 i = 6 → ¬ m.1 115 i = 5 := fun a b => by rw [a] at b; exact absurd b (by decide)
  refine ⟨vi i (by omega), fun z2 => ?_, fun z2 => by rw [if_pos z2] at h9; exact h9⟩
  rw [if_neg z2] at h9
  have h := fun m1 f1 => h m1 f1
  refine ⟨fun z3 => ⟨fun _ => by rw [if_pos z3] at h9; exact h9, fun z4 => absurd z4 (no5 z3)⟩, fun z3 => ?_⟩
  rw [if_neg z3] at h9
  refine ⟨fun z4 => ?_, fun z4 => ⟨fun z5 => absurd z4 z5, fun _ => ?_⟩⟩
  · rw [if_neg z4] at h9
    refine ⟨fun y => ?_, fun y => ⟨vi _ (by omega), ?_⟩, fun y => ⟨vi _ (by omega), ?_⟩, fun y => ?_, fun y => ⟨vi _ (by omega), ?_⟩, fun y => ⟨vi _ (by omega), ?_⟩, fun y => ?_⟩
    · rw [if_neg (by omega), if_neg (by omega), if_neg (by omega), if_neg (by omega), if_neg (by omega), if_neg (by omega)] at h9
      exact h9
    · rw [if_pos y] at h9
      exact h9
    · rw [if_neg (by omega), if_pos y] at h9
      exact h9
    · rw [if_neg (by omega), if_neg (by omega), if_pos y] at h9
      exact S_msize m _ 116 240 i rfl rfl (by omega) (by decide) (B_X11_log_128 m Q _ h9)
    · rw [if_neg (by omega), if_neg (by omega), if_neg (by omega), if_pos y] at h9
      exact h9
    · rw [if_neg (by omega), if_neg (by omega), if_neg (by omega), if_neg (by omega), if_pos y] at h9
      exact h9
    · have h6 : ∀ m1, Fm [119] [] m m1 → Q (some (.int (iI (fb_ct (fun f => mfits m i (f : Int)) E : Int)))) m1 := by
        intro m1 f1
        have := h m1 f1
        rw [if_neg z2, if_neg z3, if_neg z4, if_neg (by omega), if_neg (by omega), if_neg (by omega), if_neg (by omega), if_neg (by omega), if_pos y] at this
        exact this
      have := lp (N := E) (W := fun f m1 => am_WP YL 188 0 0 157 [some (.ref 109), some (.int (iI (i : Int))), none, none, some (.int (iI (fb_ct (fun f => mfits m i (f : Int)) f : Int))), some (.int (iI (f : Int)))] [] m1 Q) (fun f m1 => Fm [119] [] m m1) (s := m) (Fm.rf _ _ m) ?_ ?_
      · exact this
      · intro f m1 hf f1 ih
        have e115 : m1.1 115 = m.1 115 := f1.1 115 (by decide) (by decide)
        refine B_X11_log_157 m1 Q _ _ _ ?_
        rw [show (348 : Int32).toNatClampNeg = 348 from rfl, e115, h348, iI_le (by omega) (by omega) (by omega) (by omega)]
        refine ⟨fun u => by omega, fun _ => S_fits m1 _ E hE (by rw [e115]; exact h348) i f (by omega) (by omega) (fun m2 f2 => B_X11_log_179 m2 Q _ _ _ _ ?_)⟩
        rw [mfits_fr f1, iI_i1]
        have ih := ih m2 (f1.tr f2)
        rw [fb_ct_succ] at ih
        rw [show (0 : Int32) = iI 0 from rfl, show (1 : Int32) = iI 1 from rfl, iI_add, iI_add]
        refine bz (fun u => ?_) (fun u => ?_)
        · rw [u] at ih
          rw [Int.add_zero]
          exact ih
        · rw [u] at ih
          exact ih
      · intro m1 f1
        refine B_X11_log_157 m1 Q _ _ _ ?_
        rw [show (348 : Int32).toNatClampNeg = 348 from rfl, f1.1 115 (by decide) (by decide), h348]
        exact ⟨fun _ => h6 m1 f1, fun u => absurd ((iI_le (by omega) (by omega) (by omega) (by omega)).mpr (Int.le_refl _)) u⟩
  · rw [if_pos z4] at h9
    refine ⟨fun z6 => ?_, fun z6 => ⟨vi _ (by omega), ?_⟩⟩
    · rw [if_neg z6] at h9
      exact h9
    · rw [if_pos z6] at h9
      exact h9
