/-! ===== the same answers: log, fires, blinds, count ===== -/
theorem msi_n {m : am_M} {i : Int} (h : msi m i = true) : 0 ≤ i ∧ i < 60 := by
  have := of_decide_eq_true h
  omega
theorem RN.sq {m : am_M} {E C : Nat} (h : RN m E C) {n : Nat} (hi : n < 60) : (csg m n = true → ∃ e s, am_gR YL m 35 n = some e ∧ am_gR YL m e 4 = some s ∧ csq m (n : Int) = some s ∧ ∀ q, q < 256 → wb (m.2.1 (s + 1)) q = wb (mv m 116 n) q) ∧ (csg m n = false → csq m (n : Int) = none) := by
  have sg := h.sg n hi
  constructor
  · intro z
    cases hr : am_gR YL m 35 n with
    | none => unfold csg at z; rw [hr] at z; cases z
    | some e =>
      cases hx : am_gR YL m e 4 with
      | none =>
        unfold csg at z
        rw [hr] at z
        dsimp only at z
        rw [decide_eq_true ((sg e hr).mp hx)] at z
        cases z
      | some s =>
        have ec : csq m (n : Int) = some s := by
          unfold csq
          rw [cent_n m hi, hr]
          exact hx
        refine ⟨e, s, rfl, hx, ec, fun q hq => ?_⟩
        rw [← h.hs hi hq z]
        unfold has
        rw [ec]
  · intro z
    unfold csq
    rw [cent_n m hi]
    cases hr : am_gR YL m 35 n with
    | none => rfl
    | some e =>
      dsimp only
      cases hx : am_gR YL m e 4 with
      | none => rfl
      | some s =>
        unfold csg at z
        rw [hr] at z
        dsimp only at z
        rw [decide_eq_false (fun y => by rw [(sg e hr).mpr y] at hx; cases hx)] at z
        cases z
theorem A_squares {m : am_M} {E C : Nat} (h : RN m E C) (i k : Int) : (match csq m i with | none => (-1 : Int32) | some s => iI (kth (wb (m.2.1 (s + 1))) k 256)) = iI (if msi m i then kth (wb (mv m 116 i.toNat)) k 256 else -1) := by
  by_cases b : 0 ≤ i ∧ i < 60
  · obtain ⟨n, hn⟩ : ∃ n : Nat, i = (n : Int) := ⟨i.toNat, by omega⟩
    subst hn
    have hi : n < 60 := by omega
    rw [← h.si hi, Int.toNat_natCast]
    cases z : csg m n with
    | false =>
      rw [(h.sq hi).2 z]
      rfl
    | true =>
      obtain ⟨e, s, _, _, h3, h4⟩ := (h.sq hi).1 z
      rw [h3]
      dsimp only
      rw [if_pos rfl, kth_cong h4]
  · have e1 : csq m i = none := by unfold csq cent; rw [if_neg b]
    have e2 : msi m i = false := by
      cases z : msi m i
      · rfl
      · exact absurd (msi_n z) b
    rw [e1, e2]
    rfl
theorem A_fire {m : am_M} {E C : Nat} (h : RN m E C) (f w : Int) : cfir m f w = mfir m f w := by
  have hE := h.1.ever.1
  unfold cfir mfir
  have fo := h.fo f
  rw [fo.1]
  cases z : mfo m f with
  | false => rw [if_pos rfl, if_pos rfl]
  | true =>
    have y := fo.2.mp z
    obtain ⟨n, hn⟩ : ∃ n : Nat, f = (n : Int) := ⟨f.toNat, by omega⟩
    subst hn
    have hf : n < E := by omega
    have pt : ∀ q, q < 256 → wb (m.2.1 (48 + 2 * n)) q = mpt m (iI (n : Int)) 60 q := fun q hq => by rw [h.2.2.2.2.2 n hf q hq, h.pt (by omega) hq]
    have nf : ¬ true = false := by decide
    rw [if_neg nf, if_neg nf, Int.toNat_natCast, h.st hf, h.2.2.2.2.1 n hf, h.ct (by omega), fb_ct_cong pt, mid_cong pt, h.1.again n hf]
theorem A_patch {m : am_M} {E C : Nat} (h : RN m E C) (f k : Int) : (if cfo m f then kth (wb (m.2.1 (48 + 2 * f.toNat))) k 256 else -1) = (if mfo m f then kth (mpt m (iI f) 60) k 256 else -1) := by
  have hE := h.1.ever.1
  have fo := h.fo f
  rw [fo.1]
  cases z : mfo m f with
  | false => rw [if_neg Bool.false_ne_true, if_neg Bool.false_ne_true]
  | true =>
    have y := fo.2.mp z
    obtain ⟨n, hn⟩ : ∃ n : Nat, f = (n : Int) := ⟨f.toNat, by omega⟩
    subst hn
    have hf : n < E := by omega
    rw [if_pos rfl, if_pos rfl, Int.toNat_natCast]
    exact kth_cong (fun q hq => by rw [h.2.2.2.2.2 n hf q hq, h.pt (by omega) hq])
theorem A_log {m : am_M} {E C : Nat} (h : RN m E C) (i w : Int) : clog m i w E = mlog m i w E := by
  have hE := h.1.ever.1
  unfold clog mlog
  by_cases b : inR i 0 59 = true
  · have y := of_decide_eq_true b
    have nb : ¬ inR i 0 59 = false := by rw [b]; decide
    rw [if_neg nb, if_neg nb]
    clear nb
    obtain ⟨n, hn⟩ : ∃ n : Nat, i = (n : Int) := ⟨i.toNat, by omega⟩
    subst hn
    have hi : n < 60 := by omega
    have p := h.1.places n hi
    rw [cent_n m hi, Int.toNat_natCast]
    cases hr : am_gR YL m 35 n with
    | none =>
      rw [hr] at p
      have p : m.1 115 n = 6 := p
      rw [p]
      dsimp only
      by_cases c : w = 0
      · rw [if_pos c, if_pos c]
      · rw [if_neg c, if_neg c, if_pos rfl]
    | some e =>
      rw [hr] at p
      obtain ⟨p0, p1, p2, p3, p4, p5, p6, p7, p8⟩ := p
      have p1 : m.1 115 n = m.1 e 0 := p1
      have n6 : ¬ m.1 e 0 = 6 := fun z => by rw [z] at p3; exact absurd p3 (by decide)
      dsimp only
      rw [p1, p4, p5, p6, if_neg n6]
      by_cases c0 : w = 0
      · rw [if_pos c0, if_pos c0]
      · rw [if_neg c0, if_neg c0]
        by_cases c5 : m.1 e 0 = 5
        · rw [if_pos c5, if_pos c5]
        · rw [if_neg c5, if_neg c5]
          by_cases c1 : w = 1
          · rw [if_pos c1, if_pos c1]
          · rw [if_neg c1, if_neg c1]
            have cs : csg m n = true := by
              unfold csg
              rw [hr]
              dsimp only
              rw [decide_eq_false c5]
              rfl
            obtain ⟨e', s, h1, h2, h3, h4⟩ := (h.sq hi).1 cs
            have ee : e' = e := by
              rw [hr] at h1
              cases h1
              rfl
            subst ee
            unfold ctl
            rw [h2, cfi_n m hi, h.1.joined n hi]
            dsimp only
            rw [fb_ct_cong h4]
            have fits : fb_ct (fun k => (fmk (cfp m (n : Int)) E).testBit k) 32 = fb_ct (fun f => mfits m (n : Int) (f : Int)) E := by
              have a : fb_ct (fun k => (fmk (cfp m (n : Int)) E).testBit k) 32 = fb_ct (fun k => (fmk (cfp m (n : Int)) E).testBit k) E := by
                have s32 := fb_ct_split (fun k => (fmk (cfp m (n : Int)) E).testBit k) E (32 - E)
                rw [show E + (32 - E) = 32 by omega] at s32
                rw [s32]
                have z0 : fb_ct (fun k => (fmk (cfp m (n : Int)) E).testBit (E + k)) (32 - E) = 0 := fb_ct_zero.mpr (fun k _ => by rw [fmk_tb, decide_eq_false (by omega), Bool.false_and])
                rw [z0, Nat.add_zero]
              rw [a]
              exact fb_ct_cong (fun k hk => by rw [fmk_tb, decide_eq_true hk, Bool.true_and, h.fit _ hk])
            rw [fits]
  · have b : inR i 0 59 = false := by
      cases c : inR i 0 59
      · rfl
      · exact absurd c b
    rw [if_pos b, if_pos b]
