/-! ===== the class: what it is asked ===== -/
theorem bcase {b : Bool} {P : Prop} (h : b = true ↔ P) {m : am_M} {Q : Option Value → am_M → Prop} (hq : Q (some (.int (bI b))) m) : (P → Q (some (.int 1)) m) ∧ (¬ P → Q (some (.int 0)) m) := by
  cases b
  · exact ⟨fun p => absurd (h.mpr p) (by decide), fun _ => hq⟩
  · exact ⟨fun _ => hq, fun p => absurd (h.mp rfl) p⟩
def told (h mi : Int) : Bool := inR h (-1000) 3000 && inR mi 1 60
theorem S_isTold (m : am_M) (Q : Option Value → am_M → Prop) (h mi : Int) (hbh : -2147483648 ≤ h ∧ h ≤ 2147483647) (hbmi : -2147483648 ≤ mi ∧ mi ≤ 2147483647) (hq : Q (some (.int (bI (told h mi)))) m) : am_WP YL 148 0 0 0 [some (.int (iI h)), some (.int (iI mi))] [] m Q := by
  obtain ⟨t, f⟩ := bcase (P := -1000 ≤ h ∧ h ≤ 3000 ∧ 1 ≤ mi ∧ mi ≤ 60) (by unfold told inR; rw [Bool.and_eq_true, decide_eq_true_eq, decide_eq_true_eq]; omega) hq
  refine B_X10_isTold_0 m Q _ _ ?_
  have e1 : iI h < (-1000 : Int32) ↔ h < -1000 := iI_lt (b := -1000) (by omega) (by omega) (by omega) (by omega)
  have e2 : (3000 : Int32) < iI h ↔ 3000 < h := iI_lt (a := 3000) (by omega) (by omega) (by omega) (by omega)
  have e3 : iI mi < (1 : Int32) ↔ mi < 1 := iI_lt (b := 1) (by omega) (by omega) (by omega) (by omega)
  have e4 : (60 : Int32) < iI mi ↔ 60 < mi := iI_lt (a := 60) (by omega) (by omega) (by omega) (by omega)
  rw [e1, e2, e3, e4]
  exact ⟨fun z => f (by omega), fun z => ⟨fun y => f (by omega), fun y => ⟨fun x => f (by omega), fun x => ⟨fun w => f (by omega), fun w => t (by omega)⟩⟩⟩⟩
theorem S_isAimed (m : am_M) (Q : Option Value → am_M → Prop) (mi dn rt sd : Int) (hbmi : -2147483648 ≤ mi ∧ mi ≤ 2147483647) (hbdn : -2147483648 ≤ dn ∧ dn ≤ 2147483647) (hbrt : -2147483648 ≤ rt ∧ rt ≤ 2147483647) (hbsd : -2147483648 ≤ sd ∧ sd ≤ 2147483647) (hq : Q (some (.int (bI (lok mi dn rt sd)))) m) : am_WP YL 149 0 0 0 [some (.int (iI mi)), some (.int (iI dn)), some (.int (iI rt)), some (.int (iI sd))] [] m Q := by
  obtain ⟨t, f⟩ := bcase (P := 0 ≤ mi ∧ mi ≤ 9999 ∧ -50 ≤ dn ∧ dn ≤ 50 ∧ -50 ≤ rt ∧ rt ≤ 50 ∧ (¬ dn = 0 ∨ ¬ rt = 0) ∧ 0 ≤ sd ∧ sd ≤ 400) (by
    unfold lok inR
    simp only [Bool.and_eq_true, Bool.or_eq_true, Bool.not_eq_true', decide_eq_true_eq, decide_eq_false_iff_not]
    omega) hq
  refine B_X10_isAimed_0 m Q _ _ _ _ ?_
  have e1 : iI mi < (0 : Int32) ↔ mi < 0 := iI_lt (b := 0) (by omega) (by omega) (by omega) (by omega)
  have e2 : (9999 : Int32) < iI mi ↔ 9999 < mi := iI_lt (a := 9999) (by omega) (by omega) (by omega) (by omega)
  have e3 : iI sd < (0 : Int32) ↔ sd < 0 := iI_lt (b := 0) (by omega) (by omega) (by omega) (by omega)
  have e4 : iI sd ≤ (400 : Int32) ↔ sd ≤ 400 := iI_le (b := 400) (by omega) (by omega) (by omega) (by omega)
  have e5 : iI dn < (-50 : Int32) ↔ dn < -50 := iI_lt (b := -50) (by omega) (by omega) (by omega) (by omega)
  have e6 : (50 : Int32) < iI dn ↔ 50 < dn := iI_lt (a := 50) (by omega) (by omega) (by omega) (by omega)
  have e7 : iI rt < (-50 : Int32) ↔ rt < -50 := iI_lt (b := -50) (by omega) (by omega) (by omega) (by omega)
  have e8 : iI rt ≤ (50 : Int32) ↔ rt ≤ 50 := iI_le (b := 50) (by omega) (by omega) (by omega) (by omega)
  have e9 : iI dn = (0 : Int32) ↔ dn = 0 := iI_eq (b := 0) (by omega) (by omega) (by omega) (by omega)
  have e10 : iI rt = (0 : Int32) ↔ rt = 0 := iI_eq (b := 0) (by omega) (by omega) (by omega) (by omega)
  rw [e1, e2, e3, e4, e5, e6, e7, e8, e9, e10]
  exact ⟨fun z => f (by omega), fun z => ⟨fun y => f (by omega), fun y => ⟨fun x => f (by omega), fun x => ⟨fun w => ⟨fun v => f (by omega), fun v => ⟨fun u => f (by omega), fun u => ⟨fun s => f (by omega), fun s => ⟨fun r => ⟨fun p => t (by omega), fun p => ⟨fun o => f (by omega), fun o => t (by omega)⟩⟩, fun r => f (by omega)⟩⟩⟩⟩, fun w => f (by omega)⟩⟩⟩⟩
def rtok (kd rc b : Int) : Bool := (!(decide (kd = 1) || decide (kd = 2)) || inR rc 1 40) && (!decide (kd = 2) || hzk b)
theorem S_hasReach (m : am_M) (Q : Option Value → am_M → Prop) (kd rc b : Int) (hbkd : -2147483648 ≤ kd ∧ kd ≤ 2147483647) (hbrc : -2147483648 ≤ rc ∧ rc ≤ 2147483647) (hbb : -2147483648 ≤ b ∧ b ≤ 2147483647) (hq : Q (some (.int (bI (rtok kd rc b)))) m) : am_WP YL 150 0 0 0 [some (.int (iI kd)), some (.int (iI rc)), some (.int (iI b))] [] m Q := by
  refine B_X10_hasReachTold_0 m Q _ _ _ ?_
  have e1 : iI kd = (1 : Int32) ↔ kd = 1 := iI_eq (b := 1) (by omega) (by omega) (by omega) (by omega)
  have e2 : iI kd = (2 : Int32) ↔ kd = 2 := iI_eq (b := 2) (by omega) (by omega) (by omega) (by omega)
  have e3 : iI rc < (1 : Int32) ↔ rc < 1 := iI_lt (b := 1) (by omega) (by omega) (by omega) (by omega)
  have e4 : iI rc ≤ (40 : Int32) ↔ rc ≤ 40 := iI_le (b := 40) (by omega) (by omega) (by omega) (by omega)
  rw [e1, e2, e3, e4]
  obtain ⟨t, f⟩ := bcase (P := ((kd = 1 ∨ kd = 2) → 1 ≤ rc ∧ rc ≤ 40) ∧ (kd = 2 → hzk b = true)) (by
    unfold rtok inR
    by_cases c1 : kd = 1
    · rw [decide_eq_true c1, decide_eq_false (by omega : ¬ kd = 2)]
      simp only [Bool.true_or, Bool.not_true, Bool.false_or, Bool.not_false, Bool.and_true, decide_eq_true_eq]
      exact ⟨fun z => ⟨fun _ => z, fun w => by omega⟩, fun z => z.1 (Or.inl c1)⟩
    · by_cases c2 : kd = 2
      · rw [decide_eq_false c1, decide_eq_true c2]
        simp only [Bool.or_true, Bool.not_true, Bool.false_or, Bool.and_eq_true, decide_eq_true_eq]
        exact ⟨fun z => ⟨fun _ => z.1, fun _ => z.2⟩, fun z => ⟨z.1 (Or.inr c2), z.2 c2⟩⟩
      · rw [decide_eq_false c1, decide_eq_false c2]
        simp only [Bool.or_false, Bool.not_false, Bool.true_or, Bool.and_true, true_iff]
        exact ⟨fun z => absurd z (by omega), fun z => absurd z c2⟩) hq
  refine ⟨fun z => ⟨fun y => f (fun w => by have := w.1 (Or.inl z); omega), fun y => ⟨fun x => ⟨fun _ => t ⟨fun _ => ⟨by omega, x⟩, fun w => by omega⟩, fun w => absurd z w⟩, fun x => f (fun w => by have := w.1 (Or.inl z); omega)⟩⟩, fun z => ⟨fun v => ⟨fun y => f (fun w => by have := w.1 (Or.inr v); omega), fun y => ⟨fun x => ⟨fun w => absurd w z, fun _ => ?_⟩, fun x => f (fun w => by have := w.1 (Or.inr v); omega)⟩⟩, fun v => t ⟨fun w => absurd w (by omega), fun w => absurd w v⟩⟩⟩
  refine S_isHaze m _ b hbb (B_X10_hasReachTold_34 m Q _ (bz (fun w => f (fun u => ?_)) (fun w => t ⟨fun _ => ⟨by omega, x⟩, fun _ => w⟩)))
  have := u.2 v
  rw [w] at this
  cases this
theorem S_reachLeft (m : am_M) (Q : Option Value → am_M → Prop) (kd rc b : Int) (hbkd : -2147483648 ≤ kd ∧ kd ≤ 2147483647) (hbrc : -2147483648 ≤ rc ∧ rc ≤ 2147483647) (hbb : -2147483648 ≤ b ∧ b ≤ 2147483647) (hk : rtok kd rc b = true) (hq : Q (some (.int (iI (mrc kd rc b)))) m) : am_WP YL 152 0 0 0 [some (.int (iI kd)), some (.int (iI rc)), some (.int (iI b)), none] [] m Q := by
  have e1 : iI kd = (1 : Int32) ↔ kd = 1 := iI_eq (b := 1) (by omega) (by omega) (by omega) (by omega)
  have e2 : iI kd = (2 : Int32) ↔ kd = 2 := iI_eq (b := 2) (by omega) (by omega) (by omega) (by omega)
  refine B_X10_reachLeft_0 m Q _ _ _ ?_
  rw [e1, e2]
  unfold mrc at hq
  refine ⟨fun z => ?_, fun z => by rw [if_pos z] at hq; exact hq⟩
  rw [if_neg z] at hq
  refine ⟨fun y => ?_, fun y => by rw [if_neg y] at hq; exact hq⟩
  rw [if_pos y] at hq
  unfold rtok at hk
  rw [decide_eq_true y, Bool.or_true, Bool.not_true, Bool.false_or, Bool.false_or] at hk
  obtain ⟨h1, h2⟩ := Bool.and_eq_true_iff.mp hk
  have h1 := of_decide_eq_true h1
  have hz := of_decide_eq_true h2
  have zb := hzv_b h2
  have fin : ∀ u : UInt32, vf_n32 (FP.fmul u 1120403456) → FP.f2i (FP.fmul u 1120403456) = hzv b → am_WP YL 152 0 0 18 [none, some (.int (iI rc)), none, none] [.float u] m Q := fun u h3 h4 => by
    refine B_X10_reachLeft_18 m Q _ _ ⟨h3, ?_⟩
    rw [h4, ← iI_self (hzv b), hz_cut h1.1 h1.2 zb.1 zb.2]
    exact hq
  by_cases s : b < 0
  · have hb : b = -2147483648 := by omega
    subst hb
    refine B_X10_floatOf_0 m _ _ ?_
    have a1 : (iI (-2147483648) >>> ((23 : Int32) &&& 31)) &&& (255 : Int32) = iI ((0 : Nat) : Int) := by decide
    have a2 : iI (-2147483648) &&& (8388607 : Int32) = iI ((0 : Nat) : Int) := by decide
    rw [a1, a2]
    refine ⟨fun _ => ?_, fun w => absurd (show iI ((0 : Nat) : Int) ≤ 0 by decide) w⟩
    rw [vc_i2f (by decide)]
    refine S_halve m _ 0 (by decide) 149 0 1 (by omega) (by omega) (fin _ ?_ ?_)
    · have : vc 0 (0 + 149) = 0 := by decide +kernel
      rw [this]
      unfold vf_n32
      decide +kernel
    · have : vc 0 (0 + 149) = 0 := by decide +kernel
      rw [this]
      unfold hzv
      rw [if_pos (by decide)]
      decide +kernel
  · obtain ⟨n, hn⟩ : ∃ n : Nat, b = (n : Int) := ⟨b.toNat, by omega⟩
    subst hn
    refine S_floatOf m _ n (by omega) (fin _ (haze_ok (by omega)).1 ?_)
    unfold hzv
    rw [if_neg s, Int.toNat_natCast]
noncomputable def chid (m : am_M) (n : Nat) (t r c : Int) : Int := if inR t 0 ((n : Int) - 1) && cth m r c then cf m (bse m t.toNat) (abv m t.toNat) (16 * r + c).toNat else -2
theorem cto_n {m : am_M} {n : Nat} (hT : tw_ok m n) (t : Int) : cto m t = inR t 0 ((n : Int) - 1) := by
  have := hT.1
  unfold cto inR
  rw [hT.2.1, iI_to (by omega) (by omega)]
  exact decide_eq_decide.mpr (by omega)
theorem cth_b {m : am_M} {r c : Int} (h : cth m r c = true) : 0 ≤ r ∧ r ≤ 15 ∧ 0 ≤ c ∧ c ≤ 15 ∧ wb (m.2.1 8) (16 * r + c).toNat = true := of_decide_eq_true h
theorem S_cseen (m : am_M) (Q : Option Value → am_M → Prop) (hW : WO m) (n : Nat) (hT : tw_ok m n) (t r c : Int) (hbt : -2147483648 ≤ t ∧ t ≤ 2147483647) (hbr : -2147483648 ≤ r ∧ r ≤ 2147483647) (hbc : -2147483648 ≤ c ∧ c ≤ 2147483647) :
    (Q (some (.int (iI (if chid m n t r c = -2 then -1 else chid m n t r c)))) m → am_WP YL 118 0 0 0 [some (.ref 3), some (.int (iI t)), some (.int (iI r)), some (.int (iI c)), none] [] m Q) ∧
    (Q (some (.int (iI (if chid m n t r c = -2 then -1 else if chid m n t r c = -1 then 1 else 0)))) m → am_WP YL 117 0 0 0 [some (.ref 3), some (.int (iI t)), some (.int (iI r)), some (.int (iI c)), none] [] m Q) := by
  have hn := hT.1
  have hh : ∀ k, k < 256 → ((m.1 5 k).toInt).natAbs ≤ 3000 := fun k hk => by have := hW.1 k hk; omega
  have no : cth m r c = false ∨ cto m t = false → chid m n t r c = -2 := fun z => by
    unfold chid
    rw [← cto_n hT]
    rcases z with z | z <;> rw [z] <;> simp
  have n1 : cth m r c = false → (iI (if cth m r c then 16 * r + c else -1)) = (-1 : Int32) := fun z => by rw [z]; rfl
  have n2 : cth m r c = true → (iI (if cth m r c then 16 * r + c else -1)) = iI (((16 * r + c).toNat : Nat) : Int) ∧ (16 * r + c).toNat < 256 ∧ ¬ iI (((16 * r + c).toNat : Nat) : Int) = (-1 : Int32) := fun z => by
    have b := cth_b z
    rw [z]
    refine ⟨by rw [if_pos rfl]; congr 1; omega, by omega, fun w => ?_⟩
    have := (iI_eq (b := -1) (by omega) (by omega) (by omega) (by omega)).mp w
    omega
  have yes : cth m r c = true → cto m t = true → chid m n t r c = cf m (bse m t.toNat) (abv m t.toNat) (16 * r + c).toNat ∧ t = (t.toNat : Int) ∧ t.toNat < n := fun z1 z2 => by
    unfold chid
    rw [← cto_n hT, z1, z2]
    have := of_decide_eq_true (show inR t 0 ((n : Int) - 1) = true by rw [← cto_n hT]; exact z2)
    exact ⟨rfl, by omega, by omega⟩
  constructor
  · intro h
    refine B_X10_hidden_0 m Q _ _ _ (S_numberOf m _ r c (by omega) (by omega) (by omega) (by omega) (B_X10_hidden_9 m Q _ _ ?_))
    cases z : cth m r c with
    | false =>
      refine ⟨fun _ => ?_, fun w => absurd rfl w⟩
      rw [no (Or.inl z)] at h
      exact h
    | true =>
      obtain ⟨b1, b2, b3⟩ := n2 z
      rw [z] at b1
      rw [b1]
      refine ⟨fun w => absurd w b3, fun _ => S_tIsOne m _ t hbt (B_X10_hidden_25 m Q _ _ _ (bz' (fun y => ?_) (fun y => ?_)))⟩
      · rw [no (Or.inr y)] at h
        exact h
      · obtain ⟨y1, y2, y3⟩ := yes z y
        have tb := tw_b hT y3
        rw [y1] at h
        rw [y2] at y ⊢
        refine S_base m _ _ y (B_X10_hidden_42 m Q _ _ _ (S_above m _ _ y (B_X10_hidden_50 m Q _ _ _ ?_)))
        rw [tb.1, tb.2.2.1]
        refine S_fh m _ _ _ tb.2.1 b2 _ tb.2.2.2 hh (fun c1 c2 => B_X10_hidden_55 m Q _ ?_)
        rw [if_neg (by omega)] at h
        exact h
  · intro h
    refine B_X10_see_0 m Q _ _ _ (S_numberOf m _ r c (by omega) (by omega) (by omega) (by omega) (B_X10_see_9 m Q _ _ ?_))
    cases z : cth m r c with
    | false =>
      refine ⟨fun _ => ?_, fun w => absurd rfl w⟩
      rw [no (Or.inl z)] at h
      exact h
    | true =>
      obtain ⟨b1, b2, b3⟩ := n2 z
      rw [z] at b1
      rw [b1]
      refine ⟨fun w => absurd w b3, fun _ => S_tIsOne m _ t hbt (B_X10_see_25 m Q _ _ _ (bz' (fun y => ?_) (fun y => ?_)))⟩
      · rw [no (Or.inr y)] at h
        exact h
      · obtain ⟨y1, y2, y3⟩ := yes z y
        have tb := tw_b hT y3
        rw [y1] at h
        rw [y2] at y ⊢
        refine S_base m _ _ y (B_X10_see_42 m Q _ _ _ (S_above m _ _ y (B_X10_see_50 m Q _ _ _ ?_)))
        rw [tb.1, tb.2.2.1]
        refine S_fh m _ _ _ tb.2.1 b2 _ tb.2.2.2 hh (fun c1 c2 => B_X10_see_55 m Q _ ?_)
        rw [if_neg (by omega)] at h
        have e : iI (cf m (bse m t.toNat) (abv m t.toNat) (16 * r + c).toNat) = (-1 : Int32) ↔ cf m (bse m t.toNat) (abv m t.toNat) (16 * r + c).toNat = -1 := iI_eq (b := -1) (by omega) (by omega) (by omega) (by omega)
        rw [e]
        exact ⟨fun w => by rw [if_neg w] at h; exact h, fun w => by rw [if_pos w] at h; exact h⟩
theorem S_csquares (m : am_M) (Q : Option Value → am_M → Prop) (hB : BK m) (i k : Int) (hbi : -2147483648 ≤ i ∧ i ≤ 2147483647) (hbk : -2147483648 ≤ k ∧ k ≤ 2147483647) (h : Q (some (.int (match csq m i with | none => -1 | some s => iI (kth (wb (m.2.1 (s + 1))) k 256)))) m) : am_WP YL 124 0 0 0 [some (.ref 3), some (.int (iI i)), some (.int (iI k)), none] [] m Q := by
  refine B_X10_squares_0 m Q _ _ (S_squaresOf m _ hB i hbi ?_)
  cases hs : csq m i with
  | none =>
    rw [hs] at h
    exact B_X10_squares_8n m Q _ h
  | some s =>
    rw [hs] at h
    have sq : sw_sq m s := by
      unfold csq at hs
      cases hc : cent m i with
      | none => rw [hc] at hs; cases hs
      | some e =>
        rw [hc] at hs
        exact ((cent_ok hB hc).2.2.2 s hs).1
    exact B_X10_squares_8r m Q _ s sq (S_atRank m _ s sq k (by omega) (by omega) (B_X10_squares_22 m Q _ h))
theorem S_cpatch (m : am_M) (Q : Option Value → am_M → Prop) (f k : Int) (hbf : -2147483648 ≤ f ∧ f ≤ 2147483647) (hbk : -2147483648 ≤ k ∧ k ≤ 2147483647) (h : Q (some (.int (iI (if cfo m f then kth (wb (m.2.1 (48 + 2 * f.toNat))) k 256 else -1)))) m) : am_WP YL 131 0 0 0 [some (.ref 3), some (.int (iI f)), some (.int (iI k))] [] m Q := by
  refine B_X10_patch_0 m Q _ _ (S_fIsOne m _ f hbf (B_X10_patch_8 m Q _ _ _ (bz (fun z => ?_) (fun z => S_patchOf m _ f hbf ?_))))
  · rw [z] at h
    exact h
  · have y := of_decide_eq_true z
    have ep : pch m f = 47 + 2 * f.toNat := if_pos z
    rw [ep]
    have sq := (sq_p m f.toNat (by omega)).1
    refine B_X10_patch_19r m Q _ _ sq (S_atRank m _ _ sq k (by omega) (by omega) (B_X10_patch_23 m Q _ ?_))
    rw [if_pos z] at h
    rw [show 47 + 2 * f.toNat + 1 = 48 + 2 * f.toNat by omega]
    exact h
def cfir (m : am_M) (f w : Int) : Int32 := if cfo m f = false then -1 else if w = 0 then iI (cst m f) else if w = 1 then m.1 41 f.toNat else if w = 2 then iI (fb_ct (wb (m.2.1 (48 + 2 * f.toNat))) 256 : Int) else if w = 3 then iI (mid (wb (m.2.1 (48 + 2 * f.toNat)))) else if w = 4 then m.1 40 f.toNat else -1
theorem S_cfire (m : am_M) (Q : Option Value → am_M → Prop) (f w : Int) (hbf : -2147483648 ≤ f ∧ f ≤ 2147483647) (hbw : -2147483648 ≤ w ∧ w ≤ 2147483647) (h : ∀ m1, Ag [45, 46] m m1 → Q (some (.int (cfir m f w))) m1) : am_WP YL 130 0 0 0 [some (.ref 3), some (.int (iI f)), some (.int (iI w))] [] m Q := by
  have h' := h m (Ag.rf _ m)
  refine B_X10_fire_0 m Q _ _ (S_fIsOne m _ f hbf (B_X10_fire_8 m Q _ _ _ (bz' (fun z => ?_) (fun z => ?_))))
  · unfold cfir at h'
    rw [if_pos z] at h'
    exact h'
  · have y := of_decide_eq_true z
    have ep : pch m f = 47 + 2 * f.toNat := if_pos z
    have sq := (sq_p m f.toNat (by omega)).1
    have zf : ¬ cfo m f = false := by rw [z]; decide
    unfold cfir at h h'
    rw [if_neg zf] at h h'
    rw [iI_to (by omega) (by omega)]
    refine ⟨fun c => ?_, fun c => ?_, fun c => ?_, fun c => ?_, fun c => ?_, fun c => ?_⟩
    · rw [if_neg (by omega), if_neg (by omega), if_neg (by omega), if_neg (by omega), if_neg (by omega)] at h'
      exact h'
    · rw [if_pos c] at h'
      exact S_stateOf m _ f hbf (B_X10_fire_56 m Q _ h')
    · rw [if_neg (by omega), if_pos c] at h'
      exact S_membersOf m _ f hbf z (B_X10_fire_65 m Q _ h')
    · rw [if_neg (by omega), if_neg (by omega), if_pos c] at h'
      refine S_patchOf m _ f hbf ?_
      rw [ep]
      refine B_X10_fire_74r m Q _ sq (S_size m _ _ sq (B_X10_fire_77 m Q _ ?_))
      rw [show 47 + 2 * f.toNat + 1 = 48 + 2 * f.toNat by omega]
      exact h'
    · refine S_middleOf m _ f hbf (fun m1 f1 => B_X10_fire_86 m1 Q _ ?_)
      have := h m1 f1
      rw [if_neg (by omega), if_neg (by omega), if_neg (by omega), if_pos c] at this
      rw [ep, show 47 + 2 * f.toNat + 1 = 48 + 2 * f.toNat by omega]
      exact this
    · rw [if_neg (by omega), if_neg (by omega), if_neg (by omega), if_neg (by omega), if_pos c] at h'
      exact S_againOf m _ f hbf z (B_X10_fire_95 m Q _ h')
theorem S_cplace (m : am_M) (Q : Option Value → am_M → Prop) (k : Int) (hbk : -2147483648 ≤ k ∧ k ≤ 2147483647) (h : Q (some (.int (if cco m k then m.1 92 k.toNat else -1))) m) : am_WP YL 136 0 0 0 [some (.ref 3), some (.int (iI k))] [] m Q := B_X10_place_0 m Q _ (S_standsAt m _ k hbk (B_X10_place_8 m Q _ h))
theorem S_csent (m : am_M) (Q : Option Value → am_M → Prop) (f : Int) (hbf : -2147483648 ≤ f ∧ f ≤ 2147483647) (h : Q (some (.int (if inR f 0 19 then m.1 93 f.toNat else -1))) m) : am_WP YL 140 0 0 0 [some (.ref 3), some (.int (iI f))] [] m Q := B_X10_sent_0 m Q _ (S_givenTo m _ f hbf (B_X10_sent_8 m Q _ h))
theorem S_cblinds (m : am_M) (Q : Option Value → am_M → Prop) (n : Nat) (hT : TI m n) (hW : WO m) (h : ∀ m1, Ft m m1 → TI m1 n → Q (some (.int (iI (fb_ct (cbl m n) 256 : Int)))) m1) : am_WP YL 141 0 0 0 [some (.ref 3)] [] m Q := by
  refine B_X10_blinds_0 m Q (S_unseen' m _ n hT (fun k hk => by have := hW.1 k hk; omega) (fun m1 f1 t1 w1 => ?_))
  have s16 : sw_sq m1 16 := ⟨rfl, rfl, rfl, rfl⟩
  refine B_X10_blinds_7r m1 Q 16 s16 (S_size m1 _ 16 s16 (B_X10_blinds_10 m1 Q _ ?_))
  rw [fb_ct_cong w1]
  exact h m1 f1 t1
theorem S_cblind (m : am_M) (Q : Option Value → am_M → Prop) (n : Nat) (hT : TI m n) (hW : WO m) (k : Int) (hbk : -2147483648 ≤ k ∧ k ≤ 2147483647) (h : ∀ m1, Ft m m1 → TI m1 n → Q (some (.int (iI (kth (cbl m n) k 256)))) m1) : am_WP YL 142 0 0 0 [some (.ref 3), some (.int (iI k))] [] m Q := by
  refine B_X10_blind_0 m Q _ (S_unseen' m _ n hT (fun k hk => by have := hW.1 k hk; omega) (fun m1 f1 t1 w1 => ?_))
  have s16 : sw_sq m1 16 := ⟨rfl, rfl, rfl, rfl⟩
  refine B_X10_blind_7r m1 Q _ 16 s16 (S_atRank m1 _ 16 s16 k (by omega) (by omega) (B_X10_blind_11 m1 Q _ ?_))
  rw [kth_cong w1]
  exact h m1 f1 t1
theorem S_cbest (m : am_M) (Q : Option Value → am_M → Prop) (n : Nat) (hT : TI m n) (hW : WO m) (h : ∀ m1, Ft m m1 → TI m1 n → Q (some (.int (iI (cbest m n)))) m1) : am_WP YL 143 0 0 0 [some (.ref 3)] [] m Q :=
  B_X10_best_0 m Q (S_bestNew m _ n hT (fun k hk => by have := hW.1 k hk; omega) (fun m1 f1 t1 => B_X10_best_7 m1 Q _ (h m1 f1 t1)))
def ccnt (m : am_M) (w : Int) : Int32 := if w = 0 then m.1 9 9 else if w = 1 then m.1 34 3 else if w = 2 then m.1 38 8 else if w = 3 then m.1 91 6 else if w = 4 then m.1 97 5 else if w = 5 then iI (fb_ct (wb (m.2.1 8)) 256 : Int) else -1
theorem S_ccount (m : am_M) (Q : Option Value → am_M → Prop) (w : Int) (hbw : -2147483648 ≤ w ∧ w ≤ 2147483647) (h : Q (some (.int (ccnt m w))) m) : am_WP YL 147 0 0 0 [some (.ref 3), some (.int (iI w))] [] m Q := by
  refine B_X10_count_0 m Q _ ?_
  rw [iI_to (by omega) (by omega)]
  unfold ccnt at h
  refine ⟨fun c => ?_, fun c => ?_, fun c => ?_, fun c => ?_, fun c => ?_, fun c => ?_, fun c => ?_⟩
  · rw [if_neg (by omega), if_neg (by omega), if_neg (by omega), if_neg (by omega), if_neg (by omega), if_neg (by omega)] at h
    exact h
  · rw [if_pos c] at h
    exact B_X7_number_0 m _ (B_X10_count_47 m Q _ h)
  · rw [if_neg (by omega), if_pos c] at h
    exact B_X5_used_0 m _ (B_X10_count_55 m Q _ h)
  · rw [if_neg (by omega), if_neg (by omega), if_pos c] at h
    exact B_X2_ever_0 m _ (B_X10_count_63 m Q _ h)
  · rw [if_neg (by omega), if_neg (by omega), if_neg (by omega), if_pos c] at h
    exact B_X0_number_0 m _ (B_X10_count_71 m Q _ h)
  · rw [if_neg (by omega), if_neg (by omega), if_neg (by omega), if_neg (by omega), if_pos c] at h
    exact B_X4_size_0 m _ (B_X10_count_79 m Q _ h)
  · rw [if_neg (by omega), if_neg (by omega), if_neg (by omega), if_neg (by omega), if_neg (by omega), if_pos c] at h
    have s7 : sw_sq m 7 := ⟨rfl, rfl, rfl, rfl⟩
    exact B_X9_there_0 m _ (B_X10_count_87r m Q 7 s7 (S_size m _ 7 s7 (B_X10_count_90 m Q _ h)))
theorem S_cclaim (m : am_M) (Q : Option Value → am_M → Prop) (i f : Int) (hbi : -2147483648 ≤ i ∧ i ≤ 2147483647) (hbf : -2147483648 ≤ f ∧ f ≤ 2147483647) (h0 : (inR i 0 59 && inR f (-1) 59) = false → Q (some (.int 0)) m) (h1 : (inR i 0 59 && inR f (-1) 59) = true → Q (some (.int 1)) (am_pI m 37 i.toNat (iI f))) : am_WP YL 144 0 0 0 [some (.ref 3), some (.int (iI i)), some (.int (iI f))] [] m Q := by
  have e1 : iI i < (0 : Int32) ↔ i < 0 := iI_lt (b := 0) (by omega) (by omega) (by omega) (by omega)
  have e2 : (60 : Int32) ≤ iI i ↔ 60 ≤ i := iI_le (a := 60) (by omega) (by omega) (by omega) (by omega)
  have e3 : iI f < (-1 : Int32) ↔ f < -1 := iI_lt (b := -1) (by omega) (by omega) (by omega) (by omega)
  have e4 : iI f < (60 : Int32) ↔ f < 60 := iI_lt (b := 60) (by omega) (by omega) (by omega) (by omega)
  have k : (inR i 0 59 && inR f (-1) 59) = true ↔ (0 ≤ i ∧ i ≤ 59 ∧ -1 ≤ f ∧ f ≤ 59) := by
    unfold inR
    rw [Bool.and_eq_true, decide_eq_true_eq, decide_eq_true_eq]
    omega
  have no : ¬ (0 ≤ i ∧ i ≤ 59 ∧ -1 ≤ f ∧ f ≤ 59) → Q (some (.int 0)) m := fun z => h0 (by
    cases c : (inR i 0 59 && inR f (-1) 59)
    · rfl
    · exact absurd (k.mp c) z)
  refine B_X10_claim_0 m Q _ _ ?_
  rw [e1, e2, e3, e4]
  refine ⟨fun z => no (by omega), fun z => ⟨fun y => no (by omega), fun y => ⟨fun x => no (by omega), fun x => ⟨fun w => ?_, fun w => no (by omega)⟩⟩⟩⟩
  have hk := h1 (k.mpr (by omega))
  obtain ⟨n, hn⟩ : ∃ n : Nat, i = (n : Int) := ⟨i.toNat, by omega⟩
  subst hn
  rw [Int.toNat_natCast] at hk
  exact S_say m _ n (by omega) (iI f) (B_X10_claim_32 _ Q hk)
