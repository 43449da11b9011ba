/-! ===== the log, the fires and the crews of both ===== -/
/-- a place of the class against a place of the reference -/
def PlOK (m : am_M) (o : Option Nat) (S : Nat → Int32) (Z : Nat → Int64) (i : Nat) : Prop := match o with
  | none => S i = 6
  | some e => EnOK m e ∧ S i = m.1 e 0 ∧ 0 ≤ (m.1 e 0).toInt ∧ (m.1 e 0).toInt ≤ 5 ∧ S (60 + i) = m.1 e 1 ∧ S (120 + i) = m.1 e 2 ∧ S (240 + i) = m.1 e 3 ∧ (am_gR YL m e 4 = none ↔ m.1 e 0 = 5) ∧ ∀ s, am_gR YL m e 4 = some s → ∀ q, q < 256 → wb (m.2.1 (s + 1)) q = wb (fun w => Z (4 * i + w)) q ∧ (wb (m.2.1 (s + 1)) q = true → wb (m.2.1 8) q = true)
def RS (m : am_M) (ent : Nat → Option Nat) (jo : Nat → Int32) (E : Nat) (wo ag : Nat → Int32) (C : Nat) (pl : Nat → Int32) (S : Nat → Int32) (Z : Nat → Int64) : Prop :=
  (∀ i, i < 60 → PlOK m (ent i) S Z i) ∧
  (∀ i, i < 60 → S (180 + i) = jo i) ∧
  (∀ i, i < 60 → jo i = -1 ∨ ∃ f : Nat, f < E ∧ jo i = iI (f : Int) ∧ ∃ e s, ent i = some e ∧ am_gR YL m e 4 = some s) ∧
  (E ≤ 20 ∧ S 348 = iI (E : Int)) ∧
  (∀ f, f < E → (wo f = 0 ∨ wo f = 1) ∧ S (300 + f) = (if wo f = 0 then (if 0 < fb_ct (fun i => decide (jo i = iI (f : Int))) 60 then 0 else 2) else 1)) ∧
  (∀ f, f < E → S (320 + f) = ag f) ∧
  (C ≤ 8 ∧ S 349 = iI (C : Int)) ∧
  (∀ k, k < C → S (340 + k) = pl k ∧ 0 ≤ (pl k).toInt ∧ (pl k).toInt < 256) ∧
  (∀ f, f < E → 0 < fb_ct (fun i => decide (jo i = iI (f : Int))) 60 → ∃ q, q < 256 ∧ ∀ i, i < 60 → jo i = iI (f : Int) → wb (fun w => Z (4 * i + w)) q = true)
theorem RS.places {m : am_M} {ent : Nat → Option Nat} {jo : Nat → Int32} {E : Nat} {wo ag : Nat → Int32} {C : Nat} {pl : Nat → Int32} {S : Nat → Int32} {Z : Nat → Int64} (h : RS m ent jo E wo ag C pl S Z) : ∀ i, i < 60 → PlOK m (ent i) S Z i := h.1
theorem RS.joined {m : am_M} {ent : Nat → Option Nat} {jo : Nat → Int32} {E : Nat} {wo ag : Nat → Int32} {C : Nat} {pl : Nat → Int32} {S : Nat → Int32} {Z : Nat → Int64} (h : RS m ent jo E wo ag C pl S Z) : ∀ i, i < 60 → S (180 + i) = jo i := h.2.1
theorem RS.joins {m : am_M} {ent : Nat → Option Nat} {jo : Nat → Int32} {E : Nat} {wo ag : Nat → Int32} {C : Nat} {pl : Nat → Int32} {S : Nat → Int32} {Z : Nat → Int64} (h : RS m ent jo E wo ag C pl S Z) : ∀ i, i < 60 → jo i = -1 ∨ ∃ f : Nat, f < E ∧ jo i = iI (f : Int) ∧ ∃ e s, ent i = some e ∧ am_gR YL m e 4 = some s := h.2.2.1
theorem RS.ever {m : am_M} {ent : Nat → Option Nat} {jo : Nat → Int32} {E : Nat} {wo ag : Nat → Int32} {C : Nat} {pl : Nat → Int32} {S : Nat → Int32} {Z : Nat → Int64} (h : RS m ent jo E wo ag C pl S Z) : E ≤ 20 ∧ S 348 = iI (E : Int) := h.2.2.2.1
theorem RS.outs {m : am_M} {ent : Nat → Option Nat} {jo : Nat → Int32} {E : Nat} {wo ag : Nat → Int32} {C : Nat} {pl : Nat → Int32} {S : Nat → Int32} {Z : Nat → Int64} (h : RS m ent jo E wo ag C pl S Z) : ∀ f, f < E → (wo f = 0 ∨ wo f = 1) ∧ S (300 + f) = (if wo f = 0 then (if 0 < fb_ct (fun i => decide (jo i = iI (f : Int))) 60 then 0 else 2) else 1) := h.2.2.2.2.1
theorem RS.again {m : am_M} {ent : Nat → Option Nat} {jo : Nat → Int32} {E : Nat} {wo ag : Nat → Int32} {C : Nat} {pl : Nat → Int32} {S : Nat → Int32} {Z : Nat → Int64} (h : RS m ent jo E wo ag C pl S Z) : ∀ f, f < E → S (320 + f) = ag f := h.2.2.2.2.2.1
theorem RS.crews {m : am_M} {ent : Nat → Option Nat} {jo : Nat → Int32} {E : Nat} {wo ag : Nat → Int32} {C : Nat} {pl : Nat → Int32} {S : Nat → Int32} {Z : Nat → Int64} (h : RS m ent jo E wo ag C pl S Z) : C ≤ 8 ∧ S 349 = iI (C : Int) := h.2.2.2.2.2.2.1
theorem RS.stands {m : am_M} {ent : Nat → Option Nat} {jo : Nat → Int32} {E : Nat} {wo ag : Nat → Int32} {C : Nat} {pl : Nat → Int32} {S : Nat → Int32} {Z : Nat → Int64} (h : RS m ent jo E wo ag C pl S Z) : ∀ k, k < C → S (340 + k) = pl k ∧ 0 ≤ (pl k).toInt ∧ (pl k).toInt < 256 := h.2.2.2.2.2.2.2.1
theorem RS.patch {m : am_M} {ent : Nat → Option Nat} {jo : Nat → Int32} {E : Nat} {wo ag : Nat → Int32} {C : Nat} {pl : Nat → Int32} {S : Nat → Int32} {Z : Nat → Int64} (h : RS m ent jo E wo ag C pl S Z) : ∀ f, f < E → 0 < fb_ct (fun i => decide (jo i = iI (f : Int))) 60 → ∃ q, q < 256 ∧ ∀ i, i < 60 → jo i = iI (f : Int) → wb (fun w => Z (4 * i + w)) q = true := h.2.2.2.2.2.2.2.2
/-- now -/
def RN (m : am_M) (E C : Nat) : Prop := RS m (fun i => am_gR YL m 35 i) (m.1 36) E (m.1 39) (m.1 40) C (m.1 92) (m.1 115) (m.2.1 116) ∧ m.1 38 8 = iI (E : Int) ∧ m.1 91 6 = iI (C : Int) ∧ m.1 34 3 = iI (fb_ct (fun i => (am_gR YL m 35 i).isSome) 60 : Int) ∧ (∀ f, f < E → m.1 41 f = iI (cnt m (iI (f : Int)) : Int)) ∧ ∀ f, f < E → ∀ q, q < 256 → wb (m.2.1 (48 + 2 * f)) q = pat m (iI (f : Int)) q
theorem RN.bk {m : am_M} {E C : Nat} (h : RN m E C) : BK m := fun i hi e he => by
  have := h.1.places i hi
  rw [he] at this
  exact this.1
theorem RN.sg {m : am_M} {E C : Nat} (h : RN m E C) : SG m := fun i hi e he => by
  have := h.1.places i hi
  rw [he] at this
  exact this.2.2.2.2.2.2.2.1
theorem RN.jb {m : am_M} {E C : Nat} (h : RN m E C) : JB m := fun i hi => by
  have hE := h.1.ever.1
  rcases h.1.joins i hi with z | ⟨f, hf, z, _⟩
  · exact Or.inl z
  · refine Or.inr ?_
    rw [z, iI_to (by omega) (by omega)]
    omega
theorem RN.js {m : am_M} {E C : Nat} (h : RN m E C) : JS m := fun i hi z => by
  rcases h.1.joins i hi with w | ⟨f, hf, _, e, s, h1, h2⟩
  · exact absurd w z
  · refine ⟨s, ?_⟩
    unfold csq
    rw [cent_n m hi, h1]
    exact h2
theorem i32_5 {x : Int32} (h : x.toInt ≤ 5) : (x = 5 ↔ ¬ x.toInt < 5) := by
  constructor
  · intro z
    rw [z]
    decide
  · intro z
    rw [← iI_self x, show x.toInt = 5 by omega]
    rfl
theorem RN.si {m : am_M} {E C : Nat} (h : RN m E C) {i : Nat} (hi : i < 60) : csg m i = msi m (i : Int) := by
  have p := h.1.places i hi
  unfold csg msi
  rw [Int.toNat_natCast]
  cases hr : am_gR YL m 35 i with
  | none =>
    rw [hr] at p
    have p : m.1 115 i = 6 := p
    rw [p]
    exact (decide_eq_false (fun z => absurd z.2.2 (by decide))).symm
  | some e =>
    rw [hr] at p
    obtain ⟨_, p1, p2, p3, _⟩ := p
    dsimp only
    rw [p1]
    by_cases c : m.1 e 0 = 5
    · rw [decide_eq_true c]
      have := (i32_5 p3).mp c
      exact (decide_eq_false (fun z => this z.2.2)).symm
    · rw [decide_eq_false c]
      have : (m.1 e 0).toInt < 5 := by
        by_cases w : (m.1 e 0).toInt < 5
        · exact w
        · exact absurd ((i32_5 p3).mpr w) c
      exact (decide_eq_true ⟨by omega, by omega, this⟩).symm
theorem RN.hs {m : am_M} {E C : Nat} (h : RN m E C) {i q : Nat} (hi : i < 60) (hq : q < 256) (hs : csg m i = true) : has m i q = wb (mv m 116 i) q := by
  have p := h.1.places i hi
  have sg := h.sg i hi
  unfold csg at hs
  unfold has csq
  rw [cent_n m hi]
  cases hr : am_gR YL m 35 i with
  | none => rw [hr] at hs; cases hs
  | some e =>
    rw [hr] at hs p
    dsimp only at hs ⊢
    cases hx : am_gR YL m e 4 with
    | none =>
      rw [(sg e hr).mp hx] at hs
      cases hs
    | some s => exact (p.2.2.2.2.2.2.2.2 s hx q hq).1
theorem RN.al {m : am_M} {E C : Nat} (h : RN m E C) {i j : Nat} (hi : i < 60) (hj : j < 60) (h1 : csg m i = true) (h2 : csg m j = true) : cak m j i = mak m i j := by
  have p := h.1.places i hi
  have p' := h.1.places j hj
  unfold csg at h1 h2
  unfold cak
  cases hr : am_gR YL m 35 i with
  | none => rw [hr] at h1; cases h1
  | some e =>
    cases hr' : am_gR YL m 35 j with
    | none => rw [hr'] at h2; cases h2
    | some o =>
      rw [hr] at p
      rw [hr'] at p'
      dsimp only
      unfold ecl mak
      rw [p.2.2.2.2.1, p.2.2.2.2.2.1, p'.2.2.2.2.1, p'.2.2.2.2.2.1]
theorem RN.jsg {m : am_M} {E C : Nat} (h : RN m E C) {i : Nat} (hi : i < 60) (z : ¬ m.1 36 i = -1) : csg m i = true := by
  rcases h.1.joins i hi with w | ⟨f, hf, _, e, s, h1, h2⟩
  · exact absurd w z
  · have h1 : am_gR YL m 35 i = some e := h1
    unfold csg
    rw [h1]
    have sg := h.sg i hi e h1
    dsimp only
    rw [decide_eq_false (fun y => by rw [sg.mpr y] at h2; cases h2)]
    rfl
theorem RN.jn {m : am_M} {E C : Nat} (h : RN m E C) {i f : Nat} (hi : i < 60) (hf : f < 20) : mjn m (iI (f : Int)) i = decide (m.1 36 i = iI (f : Int)) := by
  unfold mjn
  rw [h.1.joined i hi]
  by_cases c : m.1 36 i = iI (f : Int)
  · rw [decide_eq_true c, Bool.and_true, ← h.si hi]
    refine h.jsg hi (fun z => ?_)
    rw [z] at c
    have := (iI_eq (a := -1) (b := (f : Int)) (by omega) (by omega) (by omega) (by omega)).mp (show iI (-1) = iI (f : Int) from c)
    omega
  · rw [decide_eq_false c, Bool.and_false]
theorem RN.ct {m : am_M} {E C : Nat} (h : RN m E C) {f : Nat} (hf : f < 20) : cnt m (iI (f : Int)) = fb_ct (mjn m (iI (f : Int))) 60 := by
  unfold cnt
  exact fb_ct_cong (fun i hi => (h.jn hi hf).symm)
theorem pa_mal {m : am_M} {E C : Nat} (h : RN m E C) {f q : Nat} (hf : f < 20) (hq : q < 256) : ∀ k, k ≤ 60 → pa m (iI (f : Int)) k q = mal m (iI (f : Int)) k q
  | 0, _ => rfl
  | k + 1, hk => by
    have ih := pa_mal h hf hq k (by omega)
    show (pa m (iI (f : Int)) k q && (!decide (m.1 36 k = iI (f : Int)) || has m k q)) = (mal m (iI (f : Int)) k q && (!mjn m (iI (f : Int)) k || wb (mv m 116 k) q))
    rw [ih, h.jn (by omega) hf]
    by_cases c : m.1 36 k = iI (f : Int)
    · have z : ¬ m.1 36 k = -1 := fun z => by
        rw [z] at c
        have := (iI_eq (a := -1) (b := (f : Int)) (by omega) (by omega) (by omega) (by omega)).mp (show iI (-1) = iI (f : Int) from c)
        omega
      rw [h.hs (by omega) hq (h.jsg (by omega) z)]
    · rw [decide_eq_false c, Bool.not_false, Bool.true_or, Bool.true_or]
theorem RN.pt {m : am_M} {E C : Nat} (h : RN m E C) {f q : Nat} (hf : f < 20) (hq : q < 256) : pat m (iI (f : Int)) q = mpt m (iI (f : Int)) 60 q := by
  unfold pat mpt
  rw [h.ct hf, pa_mal h hf hq 60 (Nat.le_refl _)]
theorem RN.fo {m : am_M} {E C : Nat} (h : RN m E C) (f : Int) : cfo m f = mfo m f ∧ (mfo m f = true ↔ 0 ≤ f ∧ f < (E : Int)) := by
  have hE := h.1.ever
  unfold cfo mfo
  rw [h.2.1, hE.2, iI_to (by omega) (by omega)]
  exact ⟨decide_eq_decide.mpr (by omega), by rw [decide_eq_true_eq]⟩
theorem RN.st {m : am_M} {E C : Nat} (h : RN m E C) {f : Nat} (hf : f < E) : iI (cst m (f : Int)) = m.1 115 (300 + f) := by
  have hE := h.1.ever.1
  have o := h.1.outs f hf
  have c1 : cfo m (f : Int) = true := by rw [(h.fo _).1]; exact (h.fo _).2.mpr (by omega)
  have c4 := h.2.2.2.2.1 f hf
  have cb : cnt m (iI (f : Int)) ≤ 60 := fb_ct_le _ 60
  have e : fb_ct (fun i => decide (m.1 36 i = iI (f : Int))) 60 = cnt m (iI (f : Int)) := rfl
  rw [o.2, e]
  unfold cst
  rw [if_pos c1, Int.toNat_natCast, c4, iI_to (by omega) (by omega)]
  by_cases w : m.1 39 f = 0
  · rw [if_pos w, if_pos w]
    by_cases z : 0 < cnt m (iI (f : Int))
    · rw [if_pos z, if_neg (by omega)]
      rfl
    · rw [if_neg z, if_pos (by omega)]
      rfl
  · rw [if_neg w, if_neg w]
    rfl
theorem mak_sym (m : am_M) (i j : Nat) : mak m i j = mak m j i := by
  unfold mak
  refine decide_eq_decide.mpr ⟨fun z => ⟨?_, z.2.1.symm, z.2.2.symm⟩, fun z => ⟨?_, z.2.1.symm, z.2.2.symm⟩⟩
  · rw [← z.2.1]; exact z.1
  · rw [← z.2.1]; exact z.1
theorem cbt_mcl {m : am_M} {E C : Nat} (h : RN m E C) {i f : Nat} (hi : i < 60) (hf : f < 20) (hs : csg m i = true) {e : Nat} (he : am_gR YL m 35 i = some e) : ∀ k, k ≤ 60 → cbt m e f k = mcl m i (iI (f : Int)) k
  | 0, _ => rfl
  | k + 1, hk => by
    have ih := cbt_mcl h hi hf hs he k (by omega)
    show (cbt m e f k || (cck m e k && decide (jf m k = f))) = (mcl m i (iI (f : Int)) k || (mjn m (iI (f : Int)) k && mak m i k))
    rw [ih, h.jn (by omega) hf]
    by_cases c : m.1 36 k = iI (f : Int)
    · have z : ¬ m.1 36 k = -1 := fun z => by
        rw [z] at c
        have := (iI_eq (a := -1) (b := (f : Int)) (by omega) (by omega) (by omega) (by omega)).mp (show iI (-1) = iI (f : Int) from c)
        omega
      have sk := h.jsg (i := k) (by omega) z
      have al := h.al (i := k) (j := i) (by omega) hi sk hs
      have ej : jf m k = f := by
        unfold jf
        rw [c, iI_to (by omega) (by omega), Int.toNat_natCast]
      have ec : cck m e k = cak m i k := by
        unfold cck cak
        rw [decide_eq_false z, he, Bool.not_false, Bool.true_and]
        cases am_gR YL m 35 k <;> rfl
      rw [decide_eq_true c, decide_eq_true ej, Bool.and_true, Bool.true_and, ec, al, mak_sym]
    · rw [decide_eq_false c, Bool.false_and]
      have : (cck m e k && decide (jf m k = f)) = false := by
        by_cases z : m.1 36 k = -1
        · unfold cck
          rw [decide_eq_true z]
          rfl
        · have b := (h.jb k (by omega)).resolve_left z
          have : ¬ jf m k = f := fun y => c (by
            unfold jf at y
            rw [← iI_self (m.1 36 k)]
            congr 1
            omega)
          rw [decide_eq_false this, Bool.and_false]
      rw [this]
theorem RN.fit {m : am_M} {E C : Nat} (h : RN m E C) (i : Int) {f : Nat} (hf : f < E) : cfp m i f = mfits m i (f : Int) := by
  have hE := h.1.ever.1
  unfold cfp mfits
  have fo : mfo m (f : Int) = true := (h.fo _).2.mpr (by omega)
  rw [fo, Bool.true_and, Int.toNat_natCast]
  by_cases b : 0 ≤ i ∧ i < 60
  · obtain ⟨n, hn⟩ : ∃ n : Nat, i = (n : Int) := ⟨i.toNat, by omega⟩
    subst hn
    have hi : n < 60 := by omega
    rw [cent_n m hi, ← h.si hi, Int.toNat_natCast, h.1.joined n hi]
    have sg := h.sg n hi
    have e1 : cfi m (n : Int) = m.1 36 n := cfi_n m hi
    cases hr : am_gR YL m 35 n with
    | none =>
      have : csg m n = false := by unfold csg; rw [hr]
      rw [this, Bool.false_and]
    | some e =>
      dsimp only
      cases hx : am_gR YL m e 4 with
      | none =>
        have : csg m n = false := by
          unfold csg
          rw [hr]
          dsimp only
          rw [decide_eq_true ((sg e hr).mp hx)]
          rfl
        rw [this, Bool.false_and]
      | some s =>
        have cs : csg m n = true := by
          unfold csg
          rw [hr]
          dsimp only
          rw [decide_eq_false (fun z => by rw [(sg e hr).mpr z] at hx; cases hx)]
          rfl
        have hh : ∀ q, q < 256 → wb (m.2.1 (s + 1)) q = wb (mv m 116 n) q := fun q hq => by
          rw [← h.hs hi hq cs]
          unfold has csq
          rw [cent_n m hi, hr]
          dsimp only
          rw [hx]
        have st := h.st hf
        have cb : -1 ≤ cst m (f : Int) ∧ cst m (f : Int) ≤ 2 := by
          unfold cst
          split
          · split
            · split <;> omega
            · omega
          · omega
        have e0 : decide (cst m (f : Int) = 0) = decide (m.1 115 (300 + f) = 0) := by
          rw [← st]
          exact decide_eq_decide.mpr (iI_eq (b := 0) (by omega) (by omega) (by omega) (by omega)).symm
        have em : wm (m.2.1 (48 + 2 * f)) (m.2.1 (s + 1)) = mtb (mpt m (iI (f : Int)) 60) (wb (mv m 116 n)) := by
          rw [wm_mtb]
          exact mtb_cong (fun q hq => by rw [h.2.2.2.2.2 f hf q hq, h.pt (by omega) hq]) hh
        dsimp only
        unfold cfit
        rw [cs, Bool.true_and, e1, cbt_mcl h hi (by omega) cs hr 60 (Nat.le_refl _), e0, em]
        cases decide (m.1 36 n = -1) <;> cases mcl m n (iI (f : Int)) 60 <;> cases decide (m.1 115 (300 + f) = 0) <;> rfl
  · have e1 : cent m i = none := by unfold cent; rw [if_neg b]
    have e2 : msi m i = false := decide_eq_false (fun z => b ⟨z.1, by omega⟩)
    rw [e1, e2, Bool.false_and]
