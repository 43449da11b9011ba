/-! ===== send ===== -/
theorem tab_bd {ed : Nat → Nat → Bool} {w : Nat → Nat → Nat} {g : Nat} {X : Nat → Nat} (hg : gr ed w) (hX : tab ed w g X) : ∀ n q, X q = n → X q < 1000000000 → X q ≤ 460 * fb_ct (fun x => decide (X x < X q)) 256 := by
  intro n
  induction n using Nat.strongRecOn with
  | ind n ih =>
    intro q hn hl
    rcases hX.2.2 q hl with e | ⟨a, h1, h2, h3⟩
    · rw [e, hX.1]
      exact Nat.zero_le _
    · have hw := hg a q h1
      have i1 := ih (X a) (by omega) a rfl h2
      have := fb_lt (p := fun x => decide (X x < X a)) (q := fun x => decide (X x < X q)) (x := a) (decide_eq_false (Nat.lt_irrefl _)) (decide_eq_true (by omega)) hw.1 (fun k _ z => decide_eq_true (by have := of_decide_eq_true z; omega))
      omega
theorem tab_bd' {ed : Nat → Nat → Bool} {w : Nat → Nat → Nat} {g : Nat} {X : Nat → Nat} (hg : gr ed w) (hX : tab ed w g X) {q : Nat} (hl : X q < 1000000000) : X q ≤ 117760 := by
  have := tab_bd hg hX _ q rfl hl
  have := fb_ct_le (fun x => decide (X x < X q)) 256
  omega
noncomputable def dsn (ed : Nat → Nat → Bool) (w : Nat → Nat → Nat) (g : Nat) : Nat → Nat := Classical.epsilon (fun D => tab ed w g D)
theorem dsn_tab {ed : Nat → Nat → Bool} {w : Nat → Nat → Nat} (hg : gr ed w) (g : Nat) : tab ed w g (dsn ed w g) := Classical.epsilon_spec (p := fun D => tab ed w g D) (tab_ex hg)
/-- capped at B -/
def capd (B d : Nat) : Nat := if d < 1000000000 then d else B
theorem capd_eq {ed : Nat → Nat → Bool} {w : Nat → Nat → Nat} {g : Nat} {X : Nat → Nat} (hg : gr ed w) (hX : tab ed w g X) (B q : Nat) : capd B (X q) = capd B (dsn ed w g q) := by
  unfold capd
  have hD := dsn_tab hg g
  by_cases c : X q < 1000000000
  · have := tab_uq hg hX hD q (Or.inl c)
    rw [if_pos c, if_pos (by omega)]
    exact this
  · by_cases c2 : dsn ed w g q < 1000000000
    · have := tab_uq hg hX hD q (Or.inr c2)
      omega
    · rw [if_neg c, if_neg c2]
/-- the p-th fire that burns -/
def brn (bur : Nat → Bool) (E p : Nat) : Nat := (kth bur (p : Int) E).toNat
theorem brn_at {bur : Nat → Bool} {E f : Nat} (h : bur f = true) (hf : f < E) : brn bur E (fb_ct bur f) = f := by
  unfold brn
  rw [kth_at h rfl hf, Int.toNat_natCast]
theorem brn_ok {bur : Nat → Bool} {E p : Nat} (hp : p < fb_ct bur E) : brn bur E p < E ∧ bur (brn bur E p) = true ∧ fb_ct bur (brn bur E p) = p := by
  obtain ⟨i, h1, h2, h3⟩ := fb_ct_kth hp
  have e : brn bur E p = i := by rw [← h3]; exact brn_at h2 h1
  rw [e]
  exact ⟨h1, h2, h3⟩
theorem brn_inj {bur : Nat → Bool} {E p q : Nat} (hp : p < q) (hq : q < fb_ct bur E) : brn bur E p ≠ brn bur E q := by
  intro e
  have a := (brn_ok (bur := bur) (E := E) (p := p) (by omega)).2.2
  have b := (brn_ok (bur := bur) (E := E) hq).2.2
  rw [e] at a
  omega
def cmd (m : am_M) (f : Nat) : Int := mid (wb (m.2.1 (48 + 2 * f)))
def cbr (m : am_M) (f : Nat) : Bool := decide (cst m (f : Int) = 0)
noncomputable def cwt (m : am_M) (E p k : Nat) : Nat := capd 10000000 (dsn (ced m) (cw m) (cmd m (brn (cbr m) E p)).toNat (cat m k))
def WC (m : am_M) : Prop := wz m ∧ ∀ g : Nat, g < 256 → m.1 87 6 = iI (g : Int) → wtab m g
theorem WO.fr {A : List Nat} {m m1 : am_M} (h : Ag A m m1) (h5 : 5 ∉ A) (h6 : 6 ∉ A) (h8 : 8 ∉ A) (hW : WO m) : WO m1 := by
  unfold WO
  rw [h.I h5, h.I h6, h.J h8]
  exact hW
theorem wtab_fr {A : List Nat} {m m1 : am_M} (h : Ag A m m1) (h5 : 5 ∉ A) (h6 : 6 ∉ A) (h8 : 8 ∉ A) (h88 : 88 ∉ A) {g : Nat} (hw : wtab m g) : wtab m1 g := by
  unfold wtab LB at hw ⊢
  rw [show ced m1 = ced m from funext fun a => funext fun b => ced_fr (h.J h8) a b, show cw m1 = cw m from funext fun a => funext fun b => cw_fr (h.I h5) (h.I h6) a b, show lvt m1 = lvt m from funext fun q => by unfold lvt lv; rw [h.I h88], h.I h88]
  exact hw
theorem WC.fr {A : List Nat} {m m1 : am_M} (h : Ag A m m1) (h5 : 5 ∉ A) (h6 : 6 ∉ A) (h8 : 8 ∉ A) (h87 : 87 ∉ A) (h88 : 88 ∉ A) (h90 : 90 ∉ A) (hw : WC m) : WC m1 := by
  refine ⟨?_, fun g hg hz => wtab_fr h h5 h6 h8 h88 (hw.2 g hg (by rw [← h.I h87]; exact hz))⟩
  unfold wz
  rw [h.I h90]
  exact hw.1
theorem cfar_cap {m : am_M} {g q : Nat} (hW : WO m) (hq : q < 256) (hw : wtab m g) : cfar m q = iI (capd 10000000 (dsn (ced m) (cw m) g q) : Int) := by
  rw [← capd_eq (cgr hW) hw.2 10000000 q, lvt_lt hq]
  unfold cfar capd
  by_cases c : m.1 88 q = -1
  · rw [if_pos c, lv_n c, if_neg (by decide)]
    rfl
  · have := lv_v hw.1 (by decide) hq c
    rw [if_neg c, if_pos (by omega)]
    exact this.1
theorem S_csend (m : am_M) (Q : Option Value → am_M → Prop) (hW : WO m) (hWC : WC m) (E C : Nat) (hE : E ≤ 20) (hC : C ≤ 8) (h8 : m.1 38 8 = iI (E : Int)) (h6 : m.1 91 6 = iI (C : Int)) (hat : ∀ k, k < C → 0 ≤ (m.1 92 k).toInt ∧ (m.1 92 k).toInt < 256) (hmd : ∀ f, f < E → cbr m f = true → 0 ≤ cmd m f ∧ cmd m f < 256 ∧ wb (m.2.1 8) (cmd m f).toNat = true)
    (h0 : (fb_ct (cbr m) E = 0 ∨ C < fb_ct (cbr m) E) → Q (some (.int (-1))) m)
    (h1 : 0 < fb_ct (cbr m) E → fb_ct (cbr m) E ≤ C → ∀ m1, Ag [45, 46, 87, 88, 89, 90, 91, 94, 95, 96] m m1 → m1.1 91 6 = m.1 91 6 → WC m1 → (∀ f, ¬ feas (fb_ct (cbr m) E) C (cwt m E) f) → Q (some (.int (-1))) m1)
    (h2 : 0 < fb_ct (cbr m) E → fb_ct (cbr m) E ≤ C → ∀ m1 kk S, Ag [45, 46, 87, 88, 89, 90, 91, 93, 94, 95, 96] m m1 → m1.1 91 6 = m.1 91 6 → WC m1 → AS (fb_ct (cbr m) E) C (cwt m E) kk S → (∀ p, p < fb_ct (cbr m) E → m1.1 93 (brn (cbr m) E p) = iI (kk p : Int)) → (∀ f, f < 20 → (∀ p, p < fb_ct (cbr m) E → brn (cbr m) E p ≠ f) → m1.1 93 f = -1) → Q (some (.int (iI (S : Int)))) m1) :
    am_WP YL 139 0 0 0 [some (.ref 3), none, none] [] m Q := by
  have nl := fb_ct_le (cbr m) E
  have cwb : ∀ p k, cwt m E p k < 1000000 ∨ cwt m E p k = 10000000 := by
    intro p k
    unfold cwt capd
    by_cases c : dsn (ced m) (cw m) (cmd m (brn (cbr m) E p)).toNat (cat m k) < 1000000000
    · have := tab_bd' (cgr hW) (dsn_tab (cgr hW) (cmd m (brn (cbr m) E p)).toNat) c
      rw [if_pos c]
      exact Or.inl (by omega)
    · rw [if_neg c]
      exact Or.inr rfl
  refine B_X10_send_0 m Q (S_burning m _ E hE h8 (B_X10_send_7 m Q _ ?_))
  rw [show fb_ct (fun f => decide (cst m f = 0)) E = fb_ct (cbr m) E from rfl, show (0 : Int32) = iI 0 from rfl, iI_eq (by omega) (by omega) (by omega) (by omega)]
  refine ⟨fun z => h0 (Or.inl (by omega)), fun z => B_X0_number_0 m _ (B_X10_send_20 m Q _ _ ?_)⟩
  rw [h6, iI_le (by omega) (by omega) (by omega) (by omega)]
  refine ⟨fun y => B_X0_startSending_0 m _ (B_X10_send_32 _ Q ?_), fun y => h0 (Or.inr (by omega))⟩
  have hn0 : 0 < fb_ct (cbr m) E := by omega
  have hnC : fb_ct (cbr m) E ≤ C := by omega
  obtain ⟨n, hn⟩ : ∃ n, n = fb_ct (cbr m) E := ⟨_, rfl⟩
  have f0 : Ag [45, 46, 87, 88, 89, 90, 91, 94, 95] m (am_pI m 91 5 0) := (Ag.rf _ m).pI (by decide) _ _
  have := lp (N := E) (W := fun f m1 => am_WP YL 139 0 0 34 [some (.ref 3), none, some (.int (iI (f : Int)))] [] m1 Q) (fun f m1 => Ag [45, 46, 87, 88, 89, 90, 91, 94, 95] m m1 ∧ m1.1 91 6 = iI (C : Int) ∧ m1.1 91 5 = iI (fb_ct (cbr m) f : Int) ∧ WC m1 ∧ ∀ p, p < fb_ct (cbr m) f → m1.1 94 p = iI (brn (cbr m) E p : Int) ∧ ∀ k, k < C → m1.1 95 (8 * p + k) = iI (cwt m E p k : Int)) (s := am_pI m 91 5 0) ⟨f0, by rw [am_pI_at, if_neg (by decide)]; exact h6, by rw [am_pI_at, if_pos rfl]; rfl, hWC.fr (A := [91]) ((Ag.rf _ m).pI (by decide) _ _) (by decide) (by decide) (by decide) (by decide) (by decide) (by decide), fun p hp => absurd hp (Nat.not_lt_zero p)⟩ ?_ ?_
  · exact this
  · rintro f m1 hf ⟨g1, g2, g3, g4, g5⟩ ih
    have mono := fb_ct_mono (cbr m) (show f + 1 ≤ E from hf)
    have e38 : m1.1 38 = m.1 38 := g1.I (by decide)
    have ecs : cst m1 (f : Int) = cst m (f : Int) := by
      unfold cst cfo
      rw [e38, g1.I (show 39 ∉ _ by decide), g1.I (show 41 ∉ _ by decide)]
    have cb := cst_b m (f : Int)
    refine B_X10_send_34 m1 Q _ (B_X2_ever_0 m1 _ (B_X10_send_42 m1 Q _ _ _ ?_))
    rw [e38, h8]
    refine ⟨fun w => absurd ((iI_le (by omega) (by omega) (by omega) (by omega)).mp w) (by omega), fun _ => S_stateOf m1 _ f (by omega) (B_X10_send_53 m1 Q _ _ ?_)⟩
    rw [ecs, show (0 : Int32) = iI 0 from rfl, iI_eq (by omega) (by omega) (by omega) (by omega), iI_i1]
    refine ⟨fun w => ?_, fun w => ?_⟩
    · have ef : fb_ct (cbr m) (f + 1) = fb_ct (cbr m) f := by
        rw [fb_ct_succ]
        unfold cbr
        rw [decide_eq_false w]
        rfl
      refine ih m1 ⟨g1, g2, by rw [ef]; exact g3, g4, by rw [ef]; exact g5⟩
    · have hbf : cbr m f = true := decide_eq_true w
      have ef : fb_ct (cbr m) (f + 1) = fb_ct (cbr m) f + 1 := by rw [fb_ct_succ, hbf]; rfl
      have hmf := hmd f hf hbf
      have hfo : cfo m1 (f : Int) = true := cst_one (m := m1) (f := (f : Int)) (by rw [ecs]; omega)
      have ep : pch m1 (f : Int) = 47 + 2 * f := by unfold pch; rw [if_pos hfo, Int.toNat_natCast]
      refine S_middleOf m1 _ f (by omega) (fun m2 k1 => B_X10_send_68 m2 Q _ _ ?_)
      have n48 : 48 + 2 * f ∉ [45, 46, 87, 88, 89, 90, 91, 94, 95] := by
        intro u
        simp at u
        omega
      have ec : mid (wb (m1.2.1 (pch m1 (f : Int) + 1))) = cmd m f := by
        rw [ep, show 47 + 2 * f + 1 = 48 + 2 * f by omega, g1.J n48]
        rfl
      rw [ec]
      obtain ⟨g, hg⟩ : ∃ g : Nat, cmd m f = (g : Int) := ⟨(cmd m f).toNat, by omega⟩
      rw [hg] at hmf ⊢
      rw [Int.toNat_natCast] at hmf
      have hg2 : g < 256 := by omega
      have k1' : Ag [45, 46, 87, 88, 89, 90, 91, 94, 95] m m2 := g1.tr (k1.sub (by decide))
      have W2 : WO m2 := hW.fr k1' (by decide) (by decide) (by decide)
      have WC2 : WC m2 := g4.fr k1 (by decide) (by decide) (by decide) (by decide) (by decide) (by decide)
      refine S_leadTo m2 _ W2 g hg2 (by rw [k1'.J (show 8 ∉ _ by decide)]; exact hmf.2.2) WC2.1 (fun z => WC2.2 g hg2 z) (fun m3 k2 k3 k4 k5 => B_X10_send_71 m3 Q _ ?_)
      have k2' : Ag [45, 46, 87, 88, 89, 90, 91, 94, 95] m m3 := k1'.tr (k2.sub (by decide))
      have W3 : WO m3 := hW.fr k2' (by decide) (by decide) (by decide)
      have WC3 : WC m3 := ⟨k4, fun g' hg' z => by
        rw [k3] at z
        have := iI_inj (by omega) (by omega) z
        rw [← this]
        exact k5⟩
      have e91 : m3.1 91 = m1.1 91 := by rw [k2.I (by decide), k1.I (by decide)]
      have e92 : m3.1 92 = m.1 92 := k2'.I (by decide)
      refine S_ask m3 _ (fb_ct (cbr m) f) C (by omega) hC (by rw [e91]; exact g3) (by rw [e91]; exact g2) (by rw [e92]; exact hat) (by rw [k3]; intro z; have := (iI_eq (b := -1) (by omega) (by omega) (by omega) (by omega)).mp z; omega) (iI (f : Int)) (fun m4 j1 j2 j3 j4 j5 => B_X10_send_83 m4 Q _ ?_)
      rw [iI_i1]
      have j1' : Ag [45, 46, 87, 88, 89, 90, 91, 94, 95] m m4 := k2'.tr (j1.sub (by decide))
      refine ih m4 ⟨j1', j3, by rw [ef]; exact j2, WC3.fr j1 (by decide) (by decide) (by decide) (by decide) (by decide) (by decide), fun p hp => ?_⟩
      rw [ef] at hp
      have e94 : m3.1 94 = m1.1 94 := by rw [k2.I (by decide), k1.I (by decide)]
      have e95 : m3.1 95 = m1.1 95 := by rw [k2.I (by decide), k1.I (by decide)]
      by_cases c : p = fb_ct (cbr m) f
      · subst c
        have eb := brn_at (E := E) hbf hf
        refine ⟨by rw [j4, if_pos rfl, eb], fun k hk => ?_⟩
        rw [j5, if_pos (by omega), show 8 * fb_ct (cbr m) f + k - 8 * fb_ct (cbr m) f = k by omega]
        have ecat : cat m3 k = cat m k := by unfold cat; rw [e92]
        have hk2 := hat k hk
        have c256 : cat m k < 256 := by unfold cat; omega
        rw [ecat, cfar_cap W3 c256 k5]
        have eed : ced m3 = ced m := funext fun a => funext fun b => ced_fr (k2'.J (by decide)) a b
        have ecw : cw m3 = cw m := funext fun a => funext fun b => cw_fr (k2'.I (by decide)) (k2'.I (by decide)) a b
        rw [eed, ecw]
        unfold cwt
        rw [eb, hg, Int.toNat_natCast]
      · have g5p := g5 p (by omega)
        refine ⟨by rw [j4, if_neg c, e94]; exact g5p.1, fun k hk => ?_⟩
        rw [j5, if_neg (by omega), e95]
        exact g5p.2 k hk
  · rintro m1 ⟨g1, g2, g3, g4, g5⟩
    have e38 : m1.1 38 = m.1 38 := g1.I (by decide)
    refine B_X10_send_34 m1 Q _ (B_X2_ever_0 m1 _ (B_X10_send_42 m1 Q _ _ _ ?_))
    rw [e38, h8]
    refine ⟨fun _ => ?_, fun w => absurd ((iI_le (by omega) (by omega) (by omega) (by omega)).mpr (Int.le_refl _)) w⟩
    have e6 : m1.1 91 6 = m.1 91 6 := by rw [g2, h6]
    refine S_assign m1 _ (fb_ct (cbr m) E) C (cwt m E) ⟨g3, g2, hnC, hC, fun p k hp hk => (g5 p hp).2 k hk, cwb⟩ (brn (cbr m) E) (fun p hp => ⟨(g5 p hp).1, by have := (brn_ok (bur := cbr m) (E := E) hp).1; omega⟩) (fun p q hpq hq => brn_inj hpq hq) (fun m2 k1 k2 => B_X10_send_96 m2 Q _ ?_) (fun m2 kk S k1 k2 k3 k4 k5 => B_X10_send_96 m2 Q _ ?_)
    · exact h1 hn0 hnC m2 ((g1.sub (by decide)).tr (k1.sub (by decide))) (by rw [k1.I (by decide)]; exact e6) (g4.fr k1 (by decide) (by decide) (by decide) (by decide) (by decide) (by decide)) k2
    · exact h2 hn0 hnC m2 kk S ((g1.sub (by decide)).tr (k1.sub (by decide))) (by rw [k1.I (by decide)]; exact e6) (g4.fr k1 (by decide) (by decide) (by decide) (by decide) (by decide) (by decide)) k2 k4 k5
/-! the reference -/
def mbr (m : am_M) (f : Nat) : Bool := decide (m.1 115 (300 + f) = 0)
def mmd (m : am_M) (f : Nat) : Int := mid (mpt m (iI (f : Int)) 60)
noncomputable def mwt (m : am_M) (E p k : Nat) : Nat := capd 1000000000 (dsn (med m) (mw m) (mmd m (brn (mbr m) E p)).toNat (mca m k))
theorem mpt_fr {A F : List Nat} {m m1 : am_M} (h : Fm A F m m1) (ha : 115 ∉ A) (hb : 116 ∉ A) (f : Int32) (k q : Nat) : mpt m1 f k q = mpt m f k q := by
  have e115 : m1.1 115 = m.1 115 := h.1 115 ha (by decide)
  have e116 : m1.2.1 116 = m.2.1 116 := h.2.1 116 hb
  have ej : mjn m1 f = mjn m f := by
    funext k
    unfold mjn msi
    rw [e115]
  have ep : ∀ k, mal m1 f k q = mal m f k q := by
    intro k
    induction k with
    | zero => rfl
    | succ k ihk =>
      show (mal m1 f k q && _) = (mal m f k q && _)
      rw [ihk, ej]
      unfold mv
      rw [e116]
  unfold mpt
  rw [ep, ej]
theorem med_fr {A F : List Nat} {m m1 : am_M} (h : Fm A F m m1) (ha : 110 ∉ A) (a b : Nat) : med m1 a b = med m a b := by
  unfold med mt
  rw [h.th ha, mbd_fr h ha, mbd_fr h ha, mbd_fr h ha, mbd_fr h ha]
theorem S_msend (m : am_M) (Q : Option Value → am_M → Prop) (hW : MW m) (E C : Nat) (hE : E ≤ 20) (h348 : m.1 115 348 = iI (E : Int)) (hC : CR m C) (hmd : ∀ f, f < E → mbr m f = true → 0 ≤ mmd m f ∧ mmd m f < 256 ∧ mt m (mmd m f).toNat = true)
    (h0 : (fb_ct (mbr m) E = 0 ∨ C < fb_ct (mbr m) E) → ∀ m1, Fm [127] [] m m1 → Q (some (.int (-1))) m1)
    (h1 : 0 < fb_ct (mbr m) E → fb_ct (mbr m) E ≤ C → ∀ m1, Fm [119, 124, 125, 127, 128, 129, 130] [] m m1 → (∀ f, ¬ feas (fb_ct (mbr m) E) C (mwt m E) f) → Q (some (.int (-1))) m1)
    (h2 : 0 < fb_ct (mbr m) E → fb_ct (mbr m) E ≤ C → ∀ m1 kk S, Fm [119, 124, 125, 126, 127, 128, 129, 130] [] m m1 → AS (fb_ct (mbr m) E) C (mwt m E) kk S → (∀ p, p < fb_ct (mbr m) E → m1.1 126 (brn (mbr m) E p) = iI (kk p : Int)) → (∀ f, f < 20 → (∀ p, p < fb_ct (mbr m) E → brn (mbr m) E p ≠ f) → m1.1 126 f = -1) → Q (some (.int (iI (S : Int)))) m1) :
    am_WP YL 217 0 0 0 [some (.ref 109), none, none, none, none] [] m Q := by
  have nl := fb_ct_le (mbr m) E
  have hC8 := hC.1
  have mwb : ∀ p k, mwt m E p k < 1000000 ∨ mwt m E p k = 1000000000 := by
    intro p k
    unfold mwt capd
    by_cases c : dsn (med m) (mw m) (mmd m (brn (mbr m) E p)).toNat (mca m k) < 1000000000
    · have := tab_bd' (mgr hW) (dsn_tab (mgr hW) (mmd m (brn (mbr m) E p)).toNat) c
      rw [if_pos c]
      exact Or.inl (by omega)
    · rw [if_neg c]
      exact Or.inr rfl
  refine B_X11_send_0 m Q ?_
  -- behind the count
  have third : ∀ m1, Fm [119, 124, 125, 127, 128] [] m m1 → 0 < fb_ct (mbr m) E → fb_ct (mbr m) E ≤ C → (∀ p, p < fb_ct (mbr m) E → m1.1 127 p = iI (brn (mbr m) E p : Int) ∧ ∀ k, k < C → m1.1 128 (8 * p + k) = iI (mwt m E p k : Int)) → am_WP YL 218 0 0 0 [some (.ref 109), some (.int (iI (fb_ct (mbr m) E : Int))), none, none, none, none, none] [] m1 (fun r1 m1 => am_WP YL 217 0 0 153 [some (.ref 109), some (.int (iI (fb_ct (mbr m) E : Int))), none, none, none] (am_pu r1 []) m1 Q) := by
    intro m1 f1 hn0 hnC hv
    refine S_give m1 _ (fb_ct (mbr m) E) C (mwt m E) ⟨hn0, hnC, hC8, by rw [f1.1 115 (by decide) (by decide)]; exact hC.2.1, fun p k hp hk => (hv p hp).2 k hk, mwb⟩ (fun m2 f2 nf => B_X11_send_153 m2 Q _ _ ⟨fun z => absurd z (by decide), fun _ => h1 hn0 hnC m2 ((f1.sub (by decide) (by decide)).tr (f2.sub (by decide) (by decide))) nf⟩) (fun m2 kk S f2 as sb hb => B_X11_send_153 m2 Q _ _ ⟨fun _ => ?_, fun z => absurd ((iI_lt (b := 1000000000) (by omega) (by omega) (by omega) (by omega)).mpr (by omega)) z⟩)
    have g2 : Fm [119, 124, 125, 126, 127, 128, 129, 130] [] m m2 := (f1.sub (by decide) (by decide)).tr (f2.sub (by decide) (by decide))
    have e127 : m2.1 127 = m1.1 127 := f2.1 127 (by decide) (by decide)
    have four : ∀ m3, Fm [119, 124, 125, 126, 127, 128, 129, 130] [] m m3 → m3.1 127 = m2.1 127 → m3.1 130 = m2.1 130 → (∀ f, f < 20 → m3.1 126 f = -1) → am_WP YL 217 0 0 185 [some (.ref 109), some (.int (iI (fb_ct (mbr m) E : Int))), some (.int (iI (S : Int))), some (.int (iI ((0 : Nat) : Int))), none] [] m3 Q := by
      intro m3 g3 i1 i2 i3
      have := lp (N := fb_ct (mbr m) E) (W := fun p m4 => am_WP YL 217 0 0 185 [some (.ref 109), some (.int (iI (fb_ct (mbr m) E : Int))), some (.int (iI (S : Int))), some (.int (iI (p : Int))), none] [] m4 Q) (fun p m4 => Fm [119, 124, 125, 126, 127, 128, 129, 130] [] m m4 ∧ m4.1 127 = m2.1 127 ∧ m4.1 130 = m2.1 130 ∧ (∀ q, q < p → m4.1 126 (brn (mbr m) E q) = iI (kk q : Int)) ∧ (∀ f, f < 20 → (∀ q, q < p → brn (mbr m) E q ≠ f) → m4.1 126 f = -1)) (s := m3) ⟨g3, i1, i2, fun q hq => absurd hq (Nat.not_lt_zero q), fun f hf _ => i3 f hf⟩ ?_ ?_
      · exact this
      · rintro p m4 hp ⟨c1, c2, c3, c4, c5⟩ ih
        have hvp := hv p hp
        have bo := (brn_ok (bur := mbr m) (E := E) hp).1
        refine B_X11_send_185 m4 Q _ _ _ ⟨fun z => absurd ((iI_le (by omega) (by omega) (by omega) (by omega)).mp z) (by omega), fun _ => ?_⟩
        rw [iI_cl (a := (p : Int)) (by omega) (by omega), Int.toNat_natCast, iI_in (a := (p : Int)) (by omega) (by omega), c2, e127, hvp.1, iI_cl (by omega) (by omega), Int.toNat_natCast, iI_in (by omega) (by omega), c3, hb p hp, iI_i1]
        refine ⟨by omega, by omega, by omega, ih _ ⟨c1.pI (by decide) (by decide) _ _, by rw [am_pI_ne (by decide)]; exact c2, by rw [am_pI_ne (by decide)]; exact c3, fun q hq => ?_, fun f hf hz => ?_⟩⟩
        · rw [am_pI_at]
          by_cases c : q = p
          · rw [c, if_pos rfl]
          · rw [if_neg (brn_inj (show q < p by omega) hp)]
            exact c4 q (by omega)
        · rw [am_pI_at, if_neg (fun e => hz p (by omega) e.symm)]
          exact c5 f hf (fun q hq => hz q (by omega))
      · rintro m4 ⟨c1, c2, c3, c4, c5⟩
        exact B_X11_send_185 m4 Q _ _ _ ⟨fun _ => h2 hn0 hnC m4 kk S c1 as c4 c5, fun z => absurd ((iI_le (by omega) (by omega) (by omega) (by omega)).mpr (Int.le_refl _)) z⟩
    have := lp (N := 20) (W := fun f m3 => am_WP YL 217 0 0 164 [some (.ref 109), some (.int (iI (fb_ct (mbr m) E : Int))), some (.int (iI (S : Int))), some (.int (iI (f : Int))), none] [] m3 Q) (fun f m3 => Fm [119, 124, 125, 126, 127, 128, 129, 130] [] m m3 ∧ m3.1 127 = m2.1 127 ∧ m3.1 130 = m2.1 130 ∧ (∀ g, g < f → m3.1 126 g = -1)) (s := m2) ⟨g2, rfl, rfl, fun g hg => absurd hg (Nat.not_lt_zero g)⟩ ?_ ?_
    · exact this
    · rintro f m3 hf ⟨c1, c2, c3, c4⟩ ih
      refine B_X11_send_164 m3 Q _ _ _ ⟨fun z => absurd ((iI_le (a := 20) (by omega) (by omega) (by omega) (by omega)).mp z) (by omega), fun _ => ?_⟩
      rw [iI_cl (a := (f : Int)) (by omega) (by omega), Int.toNat_natCast, iI_in (a := (f : Int)) (by omega) (by omega), iI_i1]
      refine ⟨by omega, ih _ ⟨c1.pI (by decide) (by decide) _ _, by rw [am_pI_ne (by decide)]; exact c2, by rw [am_pI_ne (by decide)]; exact c3, fun g hg => ?_⟩⟩
      rw [am_pI_at]
      by_cases c : g = f
      · rw [if_pos c]
      · rw [if_neg c]; exact c4 g (by omega)
    · rintro m3 ⟨c1, c2, c3, c4⟩
      exact B_X11_send_164 m3 Q _ _ _ ⟨fun _ => four m3 c1 c2 c3 c4, fun z => absurd (show (20 : Int32) ≤ iI ((20 : Nat) : Int) by decide) z⟩
  have second : ∀ m0, Fm [119, 124, 125, 127, 128] [] m m0 → 0 < fb_ct (mbr m) E → fb_ct (mbr m) E ≤ C → (∀ p, p < fb_ct (mbr m) E → m0.1 127 p = iI (brn (mbr m) E p : Int)) → am_WP YL 217 0 0 68 [some (.ref 109), some (.int (iI (fb_ct (mbr m) E : Int))), some (.int (iI ((0 : Nat) : Int))), none, none] [] m0 Q := by
    intro m0 f0 hn0 hnC hv0
    have := lp (N := fb_ct (mbr m) E) (W := fun p m1 => am_WP YL 217 0 0 68 [some (.ref 109), some (.int (iI (fb_ct (mbr m) E : Int))), some (.int (iI (p : Int))), none, none] [] m1 Q) (fun p m1 => Fm [119, 124, 125, 127, 128] [] m m1 ∧ m1.1 127 = m0.1 127 ∧ ∀ q, q < p → ∀ k, k < C → m1.1 128 (8 * q + k) = iI (mwt m E q k : Int)) (s := m0) ⟨f0, rfl, fun q hq => absurd hq (Nat.not_lt_zero q)⟩ ?_ ?_
    · exact this
    · rintro p m1 hp ⟨c1, c2, c3⟩ ih
      have bo := brn_ok (bur := mbr m) (E := E) hp
      obtain ⟨f, hf⟩ : ∃ f, f = brn (mbr m) E p := ⟨_, rfl⟩
      rw [← hf] at bo
      refine B_X11_send_68 m1 Q _ _ ⟨fun z => absurd ((iI_le (by omega) (by omega) (by omega) (by omega)).mp z) (by omega), fun _ => ?_⟩
      rw [iI_cl (a := (p : Int)) (by omega) (by omega), Int.toNat_natCast, iI_in (a := (p : Int)) (by omega) (by omega), c2, hv0 p hp, ← hf]
      refine ⟨by omega, S_mpatch m1 _ (iI (f : Int)) (fun m2 k1 w1 => B_X11_send_83 m2 Q _ _ _ ?_)⟩
      refine S_mmid m2 _ (mpt m (iI (f : Int)) 60) (fun q hq => by rw [w1 q hq, mpt_fr c1 (by decide) (by decide)]) (B_X11_send_89 m2 Q _ _ _ ?_)
      have hmf := hmd f bo.1 bo.2.1
      obtain ⟨g, hg⟩ : ∃ g : Nat, mmd m f = (g : Int) := ⟨(mmd m f).toNat, by omega⟩
      rw [hg] at hmf
      rw [Int.toNat_natCast] at hmf
      rw [show mid (mpt m (iI (f : Int)) 60) = (g : Int) from hg]
      have hg2 : g < 256 := by omega
      have k1' : Fm [119, 124, 125, 127, 128] [] m m2 := c1.tr (k1.sub (by decide) (by decide))
      have W2 : MW m2 := hW.fr k1' (by decide) (by decide) (by decide)
      refine S_reach m2 _ W2 g hg2 (by unfold mt; rw [k1'.th (by decide)]; exact hmf.2.2) (fun m3 j1 j2 j3 => B_X11_send_92 m3 Q _ _ ?_)
      have j1' : Fm [119, 124, 125, 127, 128] [] m m3 := k1'.tr (j1.sub (by decide) (by decide))
      have eed : med m2 = med m := funext fun a => funext fun b => med_fr k1' (by decide) a b
      have emw : mw m2 = mw m := funext fun a => funext fun b => mw_fr k1' (by decide) (by decide) a b
      rw [eed, emw] at j3
      have e127 : m3.1 127 = m1.1 127 := by rw [j1.1 127 (by decide) (by decide), k1.1 127 (by decide) (by decide)]
      have e128 : m3.1 128 = m1.1 128 := by rw [j1.1 128 (by decide) (by decide), k1.1 128 (by decide) (by decide)]
      have := lp (N := C) (W := fun k m4 => am_WP YL 217 0 0 95 [some (.ref 109), some (.int (iI (fb_ct (mbr m) E : Int))), some (.int (iI (p : Int))), none, some (.int (iI (k : Int)))] [] m4 Q) (fun k m4 => Fm [119, 124, 125, 127, 128] [] m m4 ∧ m4.1 127 = m0.1 127 ∧ m4.1 124 = m3.1 124 ∧ (∀ q, q < p → ∀ j, j < C → m4.1 128 (8 * q + j) = iI (mwt m E q j : Int)) ∧ (∀ j, j < k → m4.1 128 (8 * p + j) = iI (mwt m E p j : Int))) (s := m3) ⟨j1', by rw [e127]; exact c2, rfl, by rw [e128]; exact c3, fun j hj => absurd hj (Nat.not_lt_zero j)⟩ ?_ ?_
      · exact this
      · rintro k m4 hk ⟨d1, d2, d3, d4, d5⟩ ihk
        have ca := hC.at hk
        have ca2 := ca.2
        have e3 : ((340 : Int32) + iI (k : Int)) = iI ((340 + k : Nat) : Int) := iI_add 340 _
        refine B_X11_send_95 m4 Q _ _ _ ?_
        rw [show (349 : Int32).toNatClampNeg = 349 from rfl, d1.1 115 (by decide) (by decide), hC.2.1, e3, iI_cl (a := ((340 + k : Nat) : Int)) (by omega) (by omega), Int.toNat_natCast, iI_in (a := ((340 + k : Nat) : Int)) (by omega) (by omega), ca.1, iI_cl (a := (mca m k : Int)) (by omega) (by omega), Int.toNat_natCast, iI_in (a := (mca m k : Int)) (by omega) (by omega), show (8 : Int32) = iI 8 from rfl, iI_mul, iI_add, iI_cl (a := 8 * (p : Int) + (k : Int)) (by omega) (by omega), iI_in (a := 8 * (p : Int) + (k : Int)) (by omega) (by omega), show (8 * (p : Int) + (k : Int)).toNat = 8 * p + k by omega, d3, (j2 (mca m k) ca2).1, iI_i1, iI_i1]
        have ev : fv m3 (mca m k) = mwt m E p k := by
          unfold mwt
          rw [← hf, hg, Int.toNat_natCast, ← capd_eq (mgr hW) j3 1000000000 (mca m k)]
          have ef : fvt m3 (mca m k) = fv m3 (mca m k) := if_pos ca2
          rw [ef]
          unfold capd
          have := (j2 (mca m k) ca2).2
          split <;> omega
        refine ⟨fun z => absurd ((iI_le (by omega) (by omega) (by omega) (by omega)).mp z) (by omega), fun _ => ⟨by omega, by omega, by omega, ihk _ ⟨d1.pI (by decide) (by decide) _ _, by rw [am_pI_ne (by decide)]; exact d2, by rw [am_pI_ne (by decide)]; exact d3, fun q hq j hj => ?_, fun j hj => ?_⟩⟩⟩
        · rw [am_pI_at, if_neg (by omega)]
          exact d4 q hq j hj
        · rw [am_pI_at]
          by_cases c : j = k
          · rw [if_pos (by omega), c, ev]
          · rw [if_neg (by omega)]
            exact d5 j (by omega)
      · rintro m4 ⟨d1, d2, d3, d4, d5⟩
        refine B_X11_send_95 m4 Q _ _ _ ?_
        rw [show (349 : Int32).toNatClampNeg = 349 from rfl, d1.1 115 (by decide) (by decide), hC.2.1, iI_i1]
        refine ⟨fun _ => ih m4 ⟨d1, d2, fun q hq j hj => ?_⟩, fun z => absurd ((iI_le (by omega) (by omega) (by omega) (by omega)).mpr (Int.le_refl _)) z⟩
        by_cases c : q = p
        · rw [c]; exact d5 j hj
        · exact d4 q (by omega) j hj
    · rintro m1 ⟨c1, c2, c3⟩
      exact B_X11_send_68 m1 Q _ _ ⟨fun _ => third m1 c1 hn0 hnC (fun p hp => ⟨by rw [c2]; exact hv0 p hp, c3 p hp⟩), fun z => absurd ((iI_le (by omega) (by omega) (by omega) (by omega)).mpr (Int.le_refl _)) z⟩
  have := lp (N := E) (W := fun f m1 => am_WP YL 217 0 0 4 [some (.ref 109), some (.int (iI (fb_ct (mbr m) f : Int))), some (.int (iI (f : Int))), none, none] [] m1 Q) (fun f m1 => Fm [127] [] m m1 ∧ ∀ p, p < fb_ct (mbr m) f → m1.1 127 p = iI (brn (mbr m) E p : Int)) (s := m) ⟨Fm.rf _ _ m, fun p hp => absurd hp (Nat.not_lt_zero p)⟩ ?_ ?_
  · exact this
  · rintro f m1 hf ⟨c1, c2⟩ ih
    have cl := fb_ct_le (mbr m) f
    have e3 : ((300 : Int32) + iI (f : Int)) = iI ((300 + f : Nat) : Int) := iI_add 300 _
    refine B_X11_send_4 m1 Q _ _ ?_
    rw [show (348 : Int32).toNatClampNeg = 348 from rfl, c1.1 115 (by decide) (by decide), h348, e3, iI_cl (a := ((300 + f : Nat) : Int)) (by omega) (by omega), Int.toNat_natCast, iI_in (a := ((300 + f : Nat) : Int)) (by omega) (by omega), iI_cl (a := (fb_ct (mbr m) f : Int)) (by omega) (by omega), Int.toNat_natCast, iI_in (a := (fb_ct (mbr m) f : Int)) (by omega) (by omega), iI_i1, iI_i1]
    refine ⟨fun z => absurd ((iI_le (by omega) (by omega) (by omega) (by omega)).mp z) (by omega), fun _ => ⟨by omega, fun z => ⟨by omega, ?_⟩, fun z => ?_⟩⟩
    · have hb : mbr m f = true := decide_eq_true z
      have ef : fb_ct (mbr m) (f + 1) = fb_ct (mbr m) f + 1 := by rw [fb_ct_succ, hb]; rfl
      have := ih (am_pI m1 127 (fb_ct (mbr m) f) (iI (f : Int))) ⟨c1.pI (by decide) (by decide) _ _, fun p hp => ?_⟩
      · rw [ef] at this
        exact this
      · rw [ef] at hp
        rw [am_pI_at]
        by_cases c : p = fb_ct (mbr m) f
        · rw [if_pos c, c, brn_at hb hf]
        · rw [if_neg c]
          exact c2 p (by omega)
    · have hb : mbr m f = false := decide_eq_false z
      have ef : fb_ct (mbr m) (f + 1) = fb_ct (mbr m) f := by rw [fb_ct_succ, hb]; rfl
      have := ih m1 ⟨c1, by rw [ef]; exact c2⟩
      rw [ef] at this
      exact this
  · rintro m1 ⟨c1, c2⟩
    refine B_X11_send_4 m1 Q _ _ ?_
    rw [show (348 : Int32).toNatClampNeg = 348 from rfl, show (349 : Int32).toNatClampNeg = 349 from rfl, c1.1 115 (by decide) (by decide), h348, hC.2.1, show (0 : Int32) = iI 0 from rfl, iI_eq (by omega) (by omega) (by omega) (by omega)]
    refine ⟨fun _ => ⟨fun z => h0 (Or.inl (by omega)) m1 c1, fun z => ?_⟩, fun z => absurd ((iI_le (by omega) (by omega) (by omega) (by omega)).mpr (Int.le_refl _)) z⟩
    rw [iI_le (by omega) (by omega) (by omega) (by omega)]
    exact ⟨fun y => second m1 (c1.sub (by decide) (by decide)) (by omega) (by omega) c2, fun y => h0 (Or.inr (by omega)) m1 c1⟩
