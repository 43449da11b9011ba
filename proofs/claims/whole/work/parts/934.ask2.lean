/-! ===== the same answers: best, count, fewest ===== -/
theorem bsc_cong {n n' : Nat → Nat} {th th' : Nat → Bool} : ∀ k, (∀ j, j < k → n j = n' j ∧ th j = th' j) → bsc n th k = bsc n' th' k
  | 0, _ => rfl
  | k + 1, h => by
    have ih := bsc_cong k (fun j hj => h j (by omega))
    have x := h k (Nat.lt_succ_self k)
    show (if th k = true ∧ (bsc n th k).1 < n k then (n k, (k : Int)) else bsc n th k) = (if th' k = true ∧ (bsc n' th' k).1 < n' k then (n' k, (k : Int)) else bsc n' th' k)
    rw [ih, x.1, x.2]
theorem fh_own (th : Nat → Bool) (hg : Nat → Int) (f : Nat) (up : Int) : fh th hg f up f = -1 := by
  refine fh_eq (res := none) ?_
  intro i j ok
  exfalso
  have r : hd_R f f = 0 := by unfold hd_R; rw [Int.sub_self]; rfl
  have c : hd_C f f = 0 := by unfold hd_C; rw [Int.sub_self]; rfl
  obtain ⟨a1, a2, _, a4, _⟩ := ok
  omega
theorem A_new {m : am_M} {n : Nat} (hW : Wd m) (h : Tw m n) {q : Nat} (hq : q < 256) : cnew m n q = mnew m n q := by
  unfold cnew mnew
  exact fb_ct_cong (fun k hk => by rw [h.bl hW hk n (Nat.le_refl _), hW.cfm hq hk])
theorem A_best {m : am_M} {n : Nat} (hW : Wd m) (h : Tw m n) : cbest m n = mbest m n := by
  unfold cbest mbest
  have e : bsc (cnew m n) (wb (m.2.1 8)) 256 = bsc (mnew m n) (mt m) 256 := bsc_cong 256 (fun j hj => ⟨A_new hW h hj, hW.2.2.1 j hj⟩)
  rw [e]
  by_cases z : fb_ct (mbl m n) 256 = 0
  · rw [if_pos z]
    have : ∀ q, mnew m n q = 0 := fun q => by
      unfold mnew
      refine fb_ct_zero.mpr (fun k hk => ?_)
      rw [fb_ct_zero.mp z k hk, Bool.false_and]
    rw [bs_zero _ _ this]
  · rw [if_neg z]
    obtain ⟨q, hq, hb⟩ := fb_ct_pos.mp (show 0 < fb_ct (mbl m n) 256 by omega)
    have tq : mt m q = true := by
      have : ∀ k, mbl m k q = true → mt m q = true := by
        intro k
        induction k with
        | zero => exact fun w => w
        | succ k ih => exact fun w => ih (Bool.and_eq_true_iff.mp w).1
      exact this n hb
    have np : 0 < mnew m n q := by
      unfold mnew
      refine fb_ct_pos.mpr ⟨q, hq, ?_⟩
      rw [hb, show mf m q 10 q = -1 from fh_own _ _ _ _]
      rfl
    have bp := bs_pos (mnew m n) (mt m) tq np 256 hq
    rcases bs_eq (mnew m n) (mt m) 256 with w | w
    · omega
    · exact w.2.2.symm
theorem ct_lt (l : Nat) : ∀ n, fb_ct (fun k => decide (k < l)) n = if l ≤ n then l else n
  | 0 => by
    show 0 = _
    by_cases c : l ≤ 0
    · rw [if_pos c]; omega
    · rw [if_neg c]
  | n + 1 => by
    rw [fb_ct_succ, ct_lt l n]
    by_cases c : n < l
    · rw [decide_eq_true c]
      by_cases d : l ≤ n
      · omega
      · rw [if_neg d]
        by_cases e : l ≤ n + 1
        · rw [if_pos e]
          show n + 1 = l
          omega
        · rw [if_neg e]
          rfl
    · rw [decide_eq_false c, if_neg Bool.false_ne_true, if_pos (show l ≤ n by omega), if_pos (show l ≤ n + 1 by omega)]
      rfl
theorem ct_sum {m : am_M} (hL : ML m) : ∀ r, r ≤ 16 → (fb_ct (mt m) (16 * r) : Int) = msum m r
  | 0, _ => rfl
  | r + 1, hr => by
    have ih := ct_sum hL r (by omega)
    have b := hL r (by omega)
    have s := fb_ct_split (mt m) (16 * r) 16
    rw [show 16 * (r + 1) = 16 * r + 16 by omega, s]
    have e : fb_ct (fun k => mt m (16 * r + k)) 16 = (m.1 110 r).toInt.toNat := by
      rw [fb_ct_cong (q := fun k => decide (k < (m.1 110 r).toInt.toNat)) (fun k hk => ?_), ct_lt, if_pos (by omega)]
      unfold mt mth
      rw [show (16 * r + k) / 16 = r by omega, show (16 * r + k) % 16 = k by omega, Int.toNat_natCast]
      exact decide_eq_decide.mpr (by omega)
    rw [e]
    show _ = msum m r + (m.1 110 r).toInt
    omega
theorem A_count {m : am_M} {n E C : Nat} (hW : Wd m) (hT : Tw m n) (h : RN m E C) (hk : m.1 97 5 = m.1 109 13) (w : Int) : ccnt m w = mcnt m w := by
  unfold ccnt mcnt
  have e0 : m.1 9 9 = m.1 109 5 := by rw [hT.1.1.2.1, hT.2.1.2.1]
  have e1 : m.1 34 3 = iI (mpl m : Int) := by
    rw [h.2.2.2.1]
    unfold mpl
    rw [fb_ct_cong (fun i hi => ?_)]
    have p := h.1.places i hi
    cases hr : am_gR YL m 35 i with
    | none =>
      rw [hr] at p
      have p : m.1 115 i = 6 := p
      rw [p]
      rfl
    | some e =>
      rw [hr] at p
      have p1 : m.1 115 i = m.1 e 0 := p.2.1
      have p3 := p.2.2.2.1
      rw [p1, decide_eq_false (fun z => by rw [z] at p3; exact absurd p3 (by decide))]
      rfl
  have e2 : m.1 38 8 = m.1 115 348 := by rw [h.2.1, h.1.ever.2]
  have e3 : m.1 91 6 = m.1 115 349 := by rw [h.2.2.1, h.1.crews.2]
  have e5 : (fb_ct (wb (m.2.1 8)) 256 : Int) = msum m 16 := by
    rw [fb_ct_cong (fun q hq => hW.2.2.1 q hq)]
    exact ct_sum hW.2.1.2.2.2 16 (Nat.le_refl _)
  rw [e0, e1, e2, e3, hk, e5]
theorem brn_cong {p p' : Nat → Bool} {n : Nat} (h : ∀ k, k < n → p k = p' k) (j : Nat) : brn p n j = brn p' n j := by
  unfold brn
  rw [kth_cong h]
theorem A_sel {m : am_M} {E C : Nat} (h : RN m E C) (l1 l2 : Int32) {i : Nat} (hi : i < 60) : csl m l1 l2 i = msl m l1 l2 i := by
  have p := h.1.places i hi
  have s := h.si hi
  unfold csl msl
  rw [← s]
  unfold csg
  cases hr : am_gR YL m 35 i with
  | none => rfl
  | some e =>
    rw [hr] at p
    have p4 : m.1 115 (60 + i) = m.1 e 1 := p.2.2.2.2.1
    dsimp only
    rw [p4]
theorem csl_csg {m : am_M} {l1 l2 : Int32} {i : Nat} (h : csl m l1 l2 i = true) : csg m i = true := by
  unfold csl at h
  unfold csg
  cases hr : am_gR YL m 35 i with
  | none => rw [hr] at h; cases h
  | some e =>
    rw [hr] at h
    exact (Bool.and_eq_true_iff.mp h).1
theorem A_on {m : am_M} {E C : Nat} (h : RN m E C) (l1 l2 : Int32) {g : Nat} (hg : g < 2 ^ fb_ct (csl m l1 l2) 60) : cON m (csl m l1 l2) g ↔ mON m (msl m l1 l2) g := by
  refine ONE_cong (n := fb_ct (csl m l1 l2) 60) hg (fun i j hij hj => ?_) (fun j q hj hq => ?_)
  · have a := brn_ok (bur := csl m l1 l2) (E := 60) (p := i) (by omega)
    have b := brn_ok (bur := csl m l1 l2) (E := 60) hj
    rw [h.al a.1 b.1 (csl_csg a.2.1) (csl_csg b.2.1), brn_cong (fun k hk => A_sel h l1 l2 hk) i, brn_cong (fun k hk => A_sel h l1 l2 hk) j]
  · have b := brn_ok (bur := csl m l1 l2) (E := 60) hj
    rw [h.hs b.1 hq (csl_csg b.2.1), brn_cong (fun k hk => A_sel h l1 l2 hk) j]
