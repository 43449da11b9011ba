/-! ===== the same answers: looks, fewest, ways ===== -/
theorem near_e {f q : Nat} {rc : Int} (h : -1 ≤ rc) : (decide (rc = -1) || decide (((q : Int) / 16 - (f : Int) / 16) * ((q : Int) / 16 - (f : Int) / 16) + ((q : Int) % 16 - (f : Int) % 16) * ((q : Int) % 16 - (f : Int) % 16) ≤ rc * rc)) = near f q rc := by
  unfold near
  rw [show decide (rc = -1) = decide (rc < 0) from decide_eq_decide.mpr (by omega)]
theorem A_look {m : am_M} {n : Nat} (hW : Wd m) (h : Tw m n) {t q : Nat} (ht : t < n) (hq : q < 256) (kd dn rt sd : Int) {rc : Int} (hr : -1 ≤ rc) : (fcone m (bse m t) dn rt sd rc q && (decide (kd = 3) || tsee m t q)) = mlk m (mbs m t) (mab m t) dn rt sd rc (!decide (kd = 3)) q := by
  have x := h.b ht
  rw [h.see hW ht hq]
  unfold fcone mlk mse
  rw [near_e hr, hW.2.2.1 q hq, x.1]
  have e : mth m ((q / 16 : Nat) : Int) ((q % 16 : Nat) : Int) = mt m q := rfl
  rw [e]
  cases mt m q <;> cases icone (mbs m t) q dn rt sd <;> cases near (mbs m t) q rc <;> cases decide (kd = 3) <;> cases decide (mf m (mbs m t) (mab m t) q = -1) <;> rfl
theorem A_lookR {m : am_M} (hW : Wd m) {f q : Nat} (hq : q < 256) (dn rt sd : Int) : fcone m f dn rt sd (-1) q = mlk m f 2 dn rt sd (-1) false q := by
  unfold fcone mlk
  rw [near_e (by omega), hW.2.2.1 q hq]
  have e : mth m ((q / 16 : Nat) : Int) ((q % 16 : Nat) : Int) = mt m q := rfl
  rw [e]
  cases mt m q <;> cases icone f q dn rt sd <;> cases near f q (-1) <;> rfl
theorem A_few {m : am_M} {E C : Nat} (h : RN m E C) (l1 l2 : Int32) : fb_ct (csl m l1 l2) 60 = fb_ct (msl m l1 l2) 60 ∧ (∀ i, i < 60 → csl m l1 l2 i = true → ∀ q, q < 256 → has m i q = wb (mv m 116 i) q) :=
  ⟨fb_ct_cong (fun i hi => A_sel h l1 l2 hi), fun i hi hs q hq => h.hs hi hq (csl_csg hs)⟩
theorem A_fewF {m : am_M} {E C : Nat} (h : RN m E C) (l1 l2 : Int32) {F G : Nat → Nat} (f0 : F 0 = 0) (g0 : G 0 = 0) (hF : ∀ g, 0 < g → g < 2 ^ fb_ct (csl m l1 l2) 60 → FL (cON m (csl m l1 l2)) F g ∧ F g ≤ 10) (hG : ∀ g, 0 < g → g < 2 ^ fb_ct (msl m l1 l2) 60 → FL (mON m (msl m l1 l2)) G g ∧ G g ≤ 10) : F (2 ^ fb_ct (csl m l1 l2) 60 - 1) = G (2 ^ fb_ct (msl m l1 l2) 60 - 1) := by
  have e := (A_few h l1 l2).1
  rw [← e] at hG ⊢
  have p : 1 ≤ 2 ^ fb_ct (csl m l1 l2) 60 := Nat.one_le_two_pow
  rcases Nat.eq_zero_or_pos (2 ^ fb_ct (csl m l1 l2) 60 - 1) with z | z
  · rw [z, f0, g0]
  · exact FL_uq (n := 2 ^ fb_ct (csl m l1 l2) 60) (O := mON m (msl m l1 l2)) (fun g a b => FL_O b (fun x hx => A_on h l1 l2 hx) (hF g a b).1) (fun g a b => (hG g a b).1) _ z (by omega)
/-- not both: none, and a number -/
theorem A_fewN {m : am_M} {E C : Nat} (h : RN m E C) (l1 l2 : Int32) : (10 < fb_ct (csl m l1 l2) 60 ∨ ∃ i, i < 60 ∧ csl m l1 l2 i = true ∧ ∀ q, q < 256 → has m i q = false) ↔ (10 < fb_ct (msl m l1 l2) 60 ∨ ∃ i, i < 60 ∧ msl m l1 l2 i = true ∧ ∀ q, q < 256 → wb (mv m 116 i) q = false) := by
  obtain ⟨e, k⟩ := A_few h l1 l2
  rw [e]
  constructor
  · rintro (z | ⟨i, h1, h2, h3⟩)
    · exact Or.inl z
    · exact Or.inr ⟨i, h1, by rw [← A_sel h l1 l2 h1]; exact h2, fun q hq => by rw [← k i h1 h2 q hq]; exact h3 q hq⟩
  · rintro (z | ⟨i, h1, h2, h3⟩)
    · exact Or.inl z
    · have h2' : csl m l1 l2 i = true := by rw [A_sel h l1 l2 h1]; exact h2
      exact Or.inr ⟨i, h1, h2', fun q hq => by rw [k i h1 h2' q hq]; exact h3 q hq⟩
/-- ways: one table -/
theorem A_way {m : am_M} (hW : Wd m) {g : Nat} {L X : Nat → Nat} (hL : tab (ced m) (cw m) g L) (hX : tab (med m) (mw m) g X) (q : Nat) : (L q < 1000000000 ∨ X q < 1000000000) → L q = X q := tab_uq (mgr hW.2.1) (hW.tab hL) hX q
theorem CS_of {m : am_M} {E C : Nat} (h : RN m E C) : CS m C := ⟨h.1.crews.1, h.2.2.1, fun k hk => (h.1.stands k hk).2⟩
theorem A_crew {m : am_M} {E C : Nat} (h : RN m E C) (k : Int) : cco m k = mco m k ∧ (mco m k = true → cat m k.toNat = mca m k.toNat ∧ m.1 92 k.toNat = m.1 115 (340 + k.toNat)) := by
  have hc := h.1.crews
  have c8 := hc.1
  refine ⟨?_, fun z => ?_⟩
  · unfold cco mco
    rw [h.2.2.1, hc.2, iI_to (by omega) (by omega)]
    exact decide_eq_decide.mpr (by omega)
  · have z := of_decide_eq_true z
    rw [hc.2, iI_to (by omega) (by omega)] at z
    have s := (h.1.stands k.toNat (by omega)).1
    unfold cat mca
    rw [s]
    exact ⟨rfl, rfl⟩
