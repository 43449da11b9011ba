/-! ===== the reference's reach ===== -/
def mbd (m : am_M) (q : Nat) (k : Nat) : Int :=
  let r : Int := (q : Int) / 16 + (if k = 0 then -1 else if k = 3 then 1 else 0)
  let c : Int := (q : Int) % 16 + (if k = 1 then -1 else if k = 2 then 1 else 0)
  if mth m r c then 16 * r + c else -1
def ML (m : am_M) : Prop := ∀ r, r < 16 → 0 ≤ (m.1 110 r).toInt ∧ (m.1 110 r).toInt ≤ 16
theorem S_mbeside (m : am_M) (Q : Option Value → am_M → Prop) (q k : Nat) (hq : q < 256) (hk : k < 4) (h : Q (some (.int (iI (mbd m q k)))) m) : am_WP YL 208 0 0 0 [some (.ref 109), some (.int (iI (q : Int))), some (.int (iI (k : Int))), none, none] [] m Q := by
  have key : ∀ (dr dc : Int), -1 ≤ dr → dr ≤ 1 → -1 ≤ dc → dc ≤ 1 → mbd m q k = (if mth m ((q : Int) / 16 + dr) ((q : Int) % 16 + dc) then 16 * ((q : Int) / 16 + dr) + ((q : Int) % 16 + dc) else -1) → am_WP YL 162 0 0 0 [some (.ref 109), some (.int (iI ((q : Int) / 16 + dr))), some (.int (iI ((q : Int) % 16 + dc)))] [] m (fun r1 m1 => am_WP YL 208 0 0 57 [none, none, none, some (.int (iI ((q : Int) / 16 + dr))), some (.int (iI ((q : Int) % 16 + dc)))] (am_pu r1 []) m1 Q) := by
    intro dr dc a1 a2 a3 a4 e
    rw [e] at h
    refine S_isThere m _ _ _ (by omega) (by omega) (by omega) (by omega) (B_X11_beside_57 m Q _ _ _ (bz (fun z => ?_) (fun z => ?_)))
    · rw [z] at h
      exact h
    · rw [if_pos z] at h
      rw [show (16 : Int32) = iI 16 from rfl, iI_mul, iI_add]
      exact h
  refine B_X11_beside_0 m Q _ _ ?_
  simp (disch := omega) only [iI_lit, iI_neg, iI_div, iI_mul, iI_sub, iI_add, iI_eq]
  rw [show (q : Int) - (q : Int) / 16 * 16 = (q : Int) % 16 by omega]
  unfold mbd at key
  dsimp only at key
  refine ⟨fun h0 => ⟨fun h3 => ⟨fun h1 => ⟨fun h2 => by omega, fun h2 => ?_⟩, fun h1 => ?_⟩, fun h3 => ⟨fun h1 => ⟨fun h2 => ?_, fun h2 => by omega⟩, fun h1 => by omega⟩⟩, fun h0 => ⟨fun h1 => ⟨fun h2 => ?_, fun h2 => by omega⟩, fun h1 => by omega⟩⟩
  · obtain rfl : k = 2 := by omega
    exact key 0 1 (by omega) (by omega) (by omega) (by omega) rfl
  · obtain rfl : k = 1 := by omega
    exact key 0 (-1) (by omega) (by omega) (by omega) (by omega) rfl
  · obtain rfl : k = 3 := by omega
    exact key 1 0 (by omega) (by omega) (by omega) (by omega) rfl
  · obtain rfl : k = 0 := by omega
    exact key (-1) 0 (by omega) (by omega) (by omega) (by omega) rfl
def MW (m : am_M) : Prop := (∀ k, k < 256 → -1000 ≤ (m.1 111 k).toInt ∧ (m.1 111 k).toInt ≤ 3000) ∧ (∀ k, k < 256 → 0 ≤ (m.1 112 k).toInt ∧ (m.1 112 k).toInt ≤ 60) ∧ (∀ k, k < 256 → mt m k = true → 1 ≤ (m.1 112 k).toInt) ∧ ML m
theorem MW.h {m : am_M} (h : MW m) : ∀ k, k < 256 → ((m.1 111 k).toInt).natAbs ≤ 3000 := fun k hk => by have := h.1 k hk; omega
def mwi (m : am_M) (b a : Nat) : Int := (m.1 112 a).toInt + (if 0 < (m.1 111 a).toInt - (m.1 111 b).toInt then ((m.1 111 a).toInt - (m.1 111 b).toInt) / 10 else 0)
def mw (m : am_M) (b a : Nat) : Nat := (mwi m b a).toNat
theorem mwi_b {m : am_M} (hW : MW m) {a b : Nat} (ha : a < 256) (hb : b < 256) : 0 ≤ mwi m b a ∧ mwi m b a ≤ 460 ∧ (mt m a = true → 1 ≤ mwi m b a) := by
  have h1 := hW.1 a ha
  have h2 := hW.1 b hb
  have h3 := hW.2.1 a ha
  have h4 := hW.2.2.1 a ha
  unfold mwi
  split
  · exact ⟨by omega, by omega, fun z => by have := h4 z; omega⟩
  · exact ⟨by omega, by omega, fun z => by have := h4 z; omega⟩
theorem S_mstep (m : am_M) (Q : Option Value → am_M → Prop) (hW : MW m) (p q : Nat) (hp : p < 256) (hq : q < 256) (h : Q (some (.int (iI (mw m p q : Int)))) m) : am_WP YL 209 0 0 0 [some (.ref 109), some (.int (iI (p : Int))), some (.int (iI (q : Int)))] [] m Q := by
  have h1 := hW.1 p hp
  have h2 := hW.1 q hq
  have h3 := hW.2.1 q hq
  have hb := mwi_b hW hq hp
  refine B_X11_step_0 m Q _ _ ?_
  rw [iI_cl (by omega) (by omega), iI_cl (by omega) (by omega), Int.toNat_natCast, Int.toNat_natCast, iI_in (by omega) (by omega), iI_in (by omega) (by omega), ← iI_self (m.1 112 q), ← iI_self (m.1 111 q), ← iI_self (m.1 111 p), iI_sub, show (0 : Int32) = iI 0 from rfl]
  simp (disch := omega) only [iI_lt, iI_ite]
  have e : (mw m p q : Int) = mwi m p q := by unfold mw; omega
  refine ⟨by omega, by omega, by omega, ?_⟩
  rw [show (10 : Int32) = iI 10 from rfl, iI_div (by split <;> omega) (by split <;> omega) (by omega) (by omega), iI_add]
  rw [e] at h
  unfold mwi at h
  by_cases c : 0 < (m.1 111 q).toInt - (m.1 111 p).toInt
  · rw [if_pos c] at h ⊢
    exact h
  · rw [if_neg c] at h ⊢
    exact h
def med (m : am_M) (a b : Nat) : Bool := decide (a < 256) && (mt m a && (decide (mbd m a 0 = (b : Int)) || (decide (mbd m a 1 = (b : Int)) || (decide (mbd m a 2 = (b : Int)) || decide (mbd m a 3 = (b : Int))))))
theorem mbd_b {m : am_M} (hL : ML m) {a k : Nat} (ha : a < 256) (hk : k < 4) : mbd m a k = -1 ∨ (0 ≤ mbd m a k ∧ mbd m a k < 256 ∧ mt m (mbd m a k).toNat = true) := by
  unfold mbd
  dsimp only
  by_cases c : mth m ((a : Int) / 16 + (if k = 0 then -1 else if k = 3 then 1 else 0)) ((a : Int) % 16 + (if k = 1 then -1 else if k = 2 then 1 else 0)) = true
  · rw [if_pos c]
    right
    have c0 := c
    unfold mth at c0
    have c0 := of_decide_eq_true c0
    have hl := hL ((a : Int) / 16 + (if k = 0 then -1 else if k = 3 then 1 else 0)).toNat (by omega)
    generalize (a : Int) / 16 + (if k = 0 then -1 else if k = 3 then 1 else 0) = r at *
    generalize (a : Int) % 16 + (if k = 1 then -1 else if k = 2 then 1 else 0) = y at *
    refine ⟨by omega, by omega, ?_⟩
    unfold mt
    rw [show ((((16 * r + y).toNat / 16 : Nat)) : Int) = r by omega, show ((((16 * r + y).toNat % 16 : Nat)) : Int) = y by omega]
    exact c
  · rw [if_neg c]
    exact Or.inl rfl
theorem med_k {m : am_M} {a b : Nat} (h : med m a b = true) : a < 256 ∧ mt m a = true ∧ ∃ k, k < 4 ∧ mbd m a k = (b : Int) := by
  unfold med at h
  obtain ⟨h1, h⟩ := Bool.and_eq_true_iff.mp h
  obtain ⟨h2, h⟩ := Bool.and_eq_true_iff.mp h
  refine ⟨of_decide_eq_true h1, h2, ?_⟩
  rcases Bool.or_eq_true_iff.mp h with h | h
  · exact ⟨0, by decide, of_decide_eq_true h⟩
  · rcases Bool.or_eq_true_iff.mp h with h | h
    · exact ⟨1, by decide, of_decide_eq_true h⟩
    · rcases Bool.or_eq_true_iff.mp h with h | h
      · exact ⟨2, by decide, of_decide_eq_true h⟩
      · exact ⟨3, by decide, of_decide_eq_true h⟩
theorem med_of (m : am_M) {a b k : Nat} (ha : a < 256) (ht : mt m a = true) (hk : k < 4) (h : mbd m a k = (b : Int)) : med m a b = true := by
  unfold med
  rw [decide_eq_true ha, ht]
  match k, hk, h with
  | 0, _, h => rw [decide_eq_true h]; rfl
  | 1, _, h => rw [decide_eq_true h]; cases decide (mbd m a 0 = (b : Int)) <;> rfl
  | 2, _, h => rw [decide_eq_true h]; cases decide (mbd m a 0 = (b : Int)) <;> cases decide (mbd m a 1 = (b : Int)) <;> rfl
  | 3, _, h => rw [decide_eq_true h]; cases decide (mbd m a 0 = (b : Int)) <;> cases decide (mbd m a 1 = (b : Int)) <;> cases decide (mbd m a 2 = (b : Int)) <;> rfl
theorem mgr {m : am_M} (hW : MW m) : gr (med m) (mw m) := by
  intro a b h
  obtain ⟨h1, h2, k, h3, h4⟩ := med_k h
  have hb := mbd_b hW.2.2.2 h1 h3
  have hb2 : b < 256 := by omega
  have := mwi_b hW h1 hb2
  refine ⟨h1, hb2, ?_, ?_⟩
  · have := this.2.2 h2
    unfold mw
    omega
  · unfold mw
    omega
theorem mbd_fr {A F : List Nat} {m m1 : am_M} (h : Fm A F m m1) (ha : 110 ∉ A) (a k : Nat) : mbd m1 a k = mbd m a k := by
  unfold mbd
  dsimp only
  rw [h.th ha]
theorem mw_fr {A F : List Nat} {m m1 : am_M} (h : Fm A F m m1) (ha : 111 ∉ A) (hb : 112 ∉ A) (a b : Nat) : mw m1 a b = mw m a b := by
  unfold mw mwi
  rw [h.1 111 ha (by decide), h.1 112 hb (by decide)]
theorem MW.fr {A F : List Nat} {m m1 : am_M} (h : Fm A F m m1) (ha : 110 ∉ A) (hb : 111 ∉ A) (hc : 112 ∉ A) (hW : MW m) : MW m1 := by
  refine ⟨by rw [h.1 111 hb (by decide)]; exact hW.1, by rw [h.1 112 hc (by decide)]; exact hW.2.1, fun k hk z => ?_, ?_⟩
  · rw [h.1 112 hc (by decide)]
    refine hW.2.2.1 k hk ?_
    unfold mt at z ⊢
    rw [h.th ha] at z
    exact z
  · unfold ML
    rw [h.1 110 ha (by decide)]
    exact hW.2.2.2
def fv (m : am_M) (q : Nat) : Nat := (m.1 124 q).toInt.toNat
def dn (m : am_M) (q : Nat) : Bool := !decide (m.1 125 q = 0)
/-- the words of far are good ones: none, or at most B -/
def FB (m : am_M) (B : Nat) : Prop := ∀ q, q < 256 → m.1 124 q = iI (fv m q : Int) ∧ (fv m q = 1000000000 ∨ fv m q ≤ B)
/-- before the square now is taken, nd squares are done -/
def DI (m0 m1 : am_M) (g nd : Nat) : Prop := Fm [124, 125] [] m0 m1 ∧ FB m1 (460 * nd) ∧ nd = fb_ct (dn m1) 256 ∧ fv m1 g = 0 ∧
  (∀ q, q < 256 → fv m1 q < 1000000000 → q = g ∨ ∃ x, dn m1 x = true ∧ med m0 x q = true ∧ fv m1 x < 1000000000 ∧ fv m1 q = fv m1 x + mw m0 q x) ∧
  (∀ x y, dn m1 x = true → med m0 x y = true → fv m1 y ≤ fv m1 x + mw m0 y x) ∧
  (∀ x y, x < 256 → y < 256 → dn m1 x = true → dn m1 y = false → fv m1 x ≤ fv m1 y) ∧
  (∀ x, x < 256 → dn m1 x = true → fv m1 x < 1000000000) ∧
  (∀ q, q < 256 → fv m1 q < 1000000000 → mt m0 q = true)
/-- the next square: the least of those below k that are not done -/
def NX (m1 : am_M) (k : Nat) (nw : Int) : Prop := (nw = -1 ∧ ∀ q, q < k → dn m1 q = false → fv m1 q = 1000000000) ∨ (∃ a : Nat, nw = (a : Int) ∧ a < k ∧ dn m1 a = false ∧ fv m1 a < 1000000000 ∧ ∀ q, q < k → dn m1 q = false → fv m1 a ≤ fv m1 q)
def fvt (m : am_M) (q : Nat) : Nat := if q < 256 then fv m q else 1000000000
theorem dn_upd {m : am_M} {a : Nat} (x : Nat) : dn (am_pI m 125 a 1) x = if x = a then true else dn m x := by
  unfold dn
  rw [am_pI_at]
  by_cases c : x = a
  · rw [if_pos c, if_pos c]; rfl
  · rw [if_neg c, if_neg c]
/-- the edges of a, on sides below k, looked at -/
def DK (m0 m1 m2 : am_M) (a k : Nat) : Prop := Fm [124, 125] [] m0 m2 ∧ m2.1 125 = m1.1 125 ∧ FB m2 (460 * 256) ∧
  (∀ b, b < 256 → fv m2 b = fv m1 b ∨ (med m0 a b = true ∧ fv m2 b = fv m1 a + mw m0 b a ∧ fv m2 b < fv m1 b)) ∧
  (∀ j, j < k → ∀ b : Nat, mbd m0 a j = (b : Int) → fv m2 b ≤ fv m1 a + mw m0 b a)
theorem S_reachK (m : am_M) (Q : Option Value → am_M → Prop) (hW : MW m) (m1 : am_M) (a : Nat) (ha : a < 256) (hta : mt m a = true) (f1 : Fm [124, 125] [] m m1) (hF : FB m1 (460 * 255)) (hl : fv m1 a < 1000000000)
    (h : ∀ m2, DK m m1 m2 a 4 → am_WP YL 210 0 0 113 [some (.ref 109), none, some (.int (-1)), some (.int 0), none] [] m2 Q) : am_WP YL 210 0 0 53 [some (.ref 109), none, some (.int (iI (a : Int))), some (.int 0), none] [] m1 Q := by
  have hla : fv m1 a ≤ 460 * 255 := by rcases (hF a ha).2 with z | z <;> omega
  have := lp (N := 4) (W := fun k m2 => am_WP YL 210 0 0 53 [some (.ref 109), none, some (.int (iI (a : Int))), some (.int (iI (k : Int))), none] [] m2 Q) (fun k m2 => DK m m1 m2 a k) (s := m1) ⟨f1, rfl, fun q hq => ⟨(hF q hq).1, by rcases (hF q hq).2 with z | z; exact Or.inl z; exact Or.inr (by omega)⟩, fun b _ => Or.inl rfl, fun j hj => absurd hj (Nat.not_lt_zero j)⟩ ?_ ?_
  · exact this
  · rintro k m2 hk ⟨d1, d2, d3, d4, d5⟩ ih
    have W2 : MW m2 := hW.fr d1 (by decide) (by decide) (by decide)
    refine B_X11_reach_53 m2 Q _ _ ⟨fun z => absurd ((iI_le (a := 4) (by omega) (by omega) (by omega) (by omega)).mp z) (by omega), fun _ => S_mbeside m2 _ a k ha hk ?_⟩
    rw [mbd_fr d1 (by decide)]
    have hcb := mbd_b hW.2.2.2 ha hk
    refine B_X11_reach_64 m2 Q _ _ _ ?_
    rw [show (-1 : Int32) = iI (-1) from rfl, iI_eq (by omega) (by omega) (by omega) (by omega), iI_i1]
    refine ⟨fun z => ?_, fun z => ?_⟩
    · refine ih m2 ⟨d1, d2, d3, d4, fun j hj b hbj => ?_⟩
      by_cases c : j = k
      · rw [c, z] at hbj
        omega
      · exact d5 j (by omega) b hbj
    · have hcb := hcb.resolve_left z
      obtain ⟨b, hbe⟩ : ∃ b : Nat, mbd m a k = (b : Int) := ⟨(mbd m a k).toNat, by omega⟩
      rw [hbe] at hcb ⊢
      have hb2 : b < 256 := by omega
      have hed : med m a b = true := med_of m ha hta hk hbe
      have hw := mgr hW a b hed
      rw [iI_cl (by omega) (by omega), iI_cl (by omega) (by omega), Int.toNat_natCast, Int.toNat_natCast, iI_in (by omega) (by omega), iI_in (by omega) (by omega)]
      refine ⟨by omega, by omega, S_mstep m2 _ W2 b a hb2 ha (B_X11_reach_98 m2 Q _ _ 124 256 rfl rfl _ _ _ _ ?_)⟩
      have eva : fv m2 a = fv m1 a := by
        rcases d4 a ha with y | y
        · exact y
        · omega
      have fb2 := (d3 b hb2).2
      have fb1 := (hF b hb2).2
      rw [mw_fr d1 (by decide) (by decide), (d3 a ha).1, (d3 b hb2).1, eva, iI_add, iI_cl (by omega) (by omega), Int.toNat_natCast, iI_in (by omega) (by omega), iI_i1]
      simp (disch := omega) only [iI_lt, iI_ite]
      refine ⟨by omega, ?_⟩
      obtain ⟨v, hv⟩ : ∃ v : Nat, (v : Int) = (if (fv m1 a : Int) + (mw m b a : Int) < (fv m2 b : Int) then (fv m1 a : Int) + (mw m b a : Int) else (fv m2 b : Int)) := ⟨(if (fv m1 a : Int) + (mw m b a : Int) < (fv m2 b : Int) then (fv m1 a : Int) + (mw m b a : Int) else (fv m2 b : Int)).toNat, by split <;> omega⟩
      rw [← hv]
      have nf : ∀ q, fv (am_pI m2 124 b (iI (v : Int))) q = if q = b then v else fv m2 q := by
        intro q
        unfold fv
        rw [am_pI_at]
        by_cases c : q = b
        · rw [if_pos c, if_pos c, iI_to (by split at hv <;> omega) (by split at hv <;> omega), Int.toNat_natCast]
        · rw [if_neg c, if_neg c]
      refine ih _ ⟨d1.pI (by decide) (by decide) _ _, by rw [am_pI_ne (by decide)]; exact d2, fun q hq => ?_, fun c hc => ?_, fun j hj b' hbj => ?_⟩
      · rw [nf, am_pI_at]
        by_cases c : q = b
        · rw [if_pos c, if_pos c]
          refine ⟨rfl, ?_⟩
          split at hv
          · exact Or.inr (by omega)
          · rcases fb2 with z | z
            · exact Or.inl (by omega)
            · exact Or.inr (by omega)
        · rw [if_neg c, if_neg c]
          exact d3 q hq
      · rw [nf]
        by_cases e : c = b
        · rw [if_pos e, e]
          have d4b := d4 b hb2
          split at hv
          · exact Or.inr ⟨hed, by omega, by omega⟩
          · rcases d4b with z | z
            · exact Or.inl (by omega)
            · exact Or.inr ⟨hed, by omega, by omega⟩
        · rw [if_neg e]
          exact d4 c hc
      · rw [nf]
        by_cases e : b' = b
        · rw [if_pos e, e]
          split at hv <;> omega
        · rw [if_neg e]
          by_cases c : j = k
          · rw [c, hbe] at hbj
            omega
          · exact d5 j (by omega) b' hbj
  · intro m2 hd
    exact B_X11_reach_53 m2 Q _ _ ⟨fun _ => h m2 hd, fun z => absurd (show (4 : Int32) ≤ iI ((4 : Nat) : Int) by decide) z⟩
theorem S_reachN (m : am_M) (Q : Option Value → am_M → Prop) (m2 : am_M) (hF : FB m2 (460 * 256)) (h : ∀ nw, NX m2 256 nw → am_WP YL 210 0 0 39 [some (.ref 109), none, some (.int (iI nw)), none, none] [] m2 Q) : am_WP YL 210 0 0 113 [some (.ref 109), none, some (.int (-1)), some (.int 0), none] [] m2 Q := by
  have := lp (N := 256) (W := fun k (nw : Int) => am_WP YL 210 0 0 113 [some (.ref 109), none, some (.int (iI nw)), some (.int (iI (k : Int))), none] [] m2 Q) (fun k nw => NX m2 k nw) (s := (-1 : Int)) (Or.inl ⟨rfl, fun q hq => absurd hq (Nat.not_lt_zero q)⟩) ?_ ?_
  · exact this
  · intro k nw hk hN ih
    have fk := hF k hk
    refine B_X11_reach_113 m2 Q _ _ ?_
    have keep : (dn m2 k = false → fv m2 k = 1000000000 ∨ ∃ a : Nat, nw = (a : Int) ∧ fv m2 a ≤ fv m2 k) → am_WP YL 210 0 0 113 [some (.ref 109), none, some (.int (iI nw)), some (.int (iI ((k : Int) + 1))), none] [] m2 Q := by
      intro z
      refine ih nw ?_
      rcases hN with y | ⟨a, h1, h2, h3, h4, h5⟩
      · refine Or.inl ⟨y.1, fun q hq hd => ?_⟩
        by_cases c : q = k
        · rw [c] at hd ⊢
          rcases z hd with x | ⟨a, x, _⟩
          · exact x
          · have := y.1
            omega
        · exact y.2 q (by omega) hd
      · refine Or.inr ⟨a, h1, by omega, h3, h4, fun q hq hd => ?_⟩
        by_cases c : q = k
        · rw [c] at hd ⊢
          rcases z hd with x | ⟨a', x, y⟩
          · omega
          · have : a' = a := by omega
            rw [← this]
            exact y
        · exact h5 q (by omega) hd
    have take : dn m2 k = false → fv m2 k < 1000000000 → (nw = -1 ∨ ∃ a : Nat, nw = (a : Int) ∧ fv m2 k < fv m2 a) → am_WP YL 210 0 0 113 [some (.ref 109), none, some (.int (iI (k : Int))), some (.int (iI ((k : Int) + 1))), none] [] m2 Q := by
      intro z1 z2 z3
      refine ih (k : Int) (Or.inr ⟨k, rfl, by omega, z1, z2, fun q hq hd => ?_⟩)
      by_cases c : q = k
      · rw [c]; exact Nat.le_refl _
      · rcases hN with y | ⟨a, h1, h2, h3, h4, h5⟩
        · have := y.2 q (by omega) hd
          omega
        · have := h5 q (by omega) hd
          rcases z3 with x | ⟨a', x, y⟩
          · omega
          · have : a' = a := by omega
            rw [this] at y
            omega
    have hnw : nw = -1 ∨ ∃ a : Nat, nw = (a : Int) ∧ a < 256 ∧ fv m2 a < 1000000000 := by
      rcases hN with y | ⟨a, h1, h2, h3, h4, h5⟩
      · exact Or.inl y.1
      · exact Or.inr ⟨a, h1, by omega, h4⟩
    rw [iI_cl (a := (k : Int)) (by omega) (by omega), Int.toNat_natCast, iI_in (a := (k : Int)) (by omega) (by omega), fk.1, show (256 : Int32) = iI 256 from rfl, iI_le (a := 256) (by omega) (by omega) (by omega) (by omega), show (1000000000 : Int32) = iI 1000000000 from rfl, iI_le (a := 1000000000) (by omega) (by omega) (by omega) (by omega), iI_i1]
    refine ⟨fun z => by omega, fun _ => ⟨by omega, fun z => keep (fun y => ?_), fun z => ⟨by omega, fun y => keep (fun _ => Or.inl (by omega)), fun y => ⟨fun x => ?_, fun x => ?_⟩⟩⟩⟩
    · unfold dn at y
      rw [decide_eq_false z] at y
      cases y
    · have hd : dn m2 k = false := by unfold dn; rw [decide_eq_true z]; rfl
      rcases hnw with w | ⟨a, w1, w2, w3⟩
      · exact take hd (by omega) (Or.inl w)
      · rw [w1] at x
        exact absurd ((iI_eq (b := -1) (by omega) (by omega) (by omega) (by omega)).mp x) (by omega)
    · have hd : dn m2 k = false := by unfold dn; rw [decide_eq_true z]; rfl
      rcases hnw with w | ⟨a, w1, w2, w3⟩
      · rw [w] at x
        exact absurd rfl x
      · rw [w1, iI_cl (a := (a : Int)) (by omega) (by omega), Int.toNat_natCast, iI_in (a := (a : Int)) (by omega) (by omega), (hF a w2).1, iI_le (by omega) (by omega) (by omega) (by omega)]
        rw [w1] at keep
        exact ⟨by omega, by omega, fun v => keep (fun _ => Or.inr ⟨a, rfl, by omega⟩), fun v => take hd (by omega) (Or.inr ⟨a, w1, by omega⟩)⟩
  · intro nw hN
    exact B_X11_reach_113 m2 Q _ _ ⟨fun _ => h nw hN, fun z => absurd (show (256 : Int32) ≤ iI ((256 : Nat) : Int) by decide) z⟩
theorem S_reachL (m : am_M) (Q : Option Value → am_M → Prop) (hW : MW m) (g : Nat) (hg : g < 256) (h : ∀ m1, Fm [124, 125] [] m m1 → FB m1 (460 * 256) → tab (med m) (mw m) g (fvt m1) → Q none m1) : ∀ (d nd : Nat) (m1 : am_M) (nw : Int), nd + d = 256 → DI m m1 g nd → NX m1 256 nw → am_WP YL 210 0 0 39 [some (.ref 109), none, some (.int (iI nw)), none, none] [] m1 Q := by
  intro d
  induction d with
  | zero =>
    intro nd m1 nw hd hI hN
    obtain ⟨d1, d2, d3, d4, d5, d6, d7, d8, d9⟩ := hI
    have all := fb_ct_all.mp (d3.symm.trans (show nd = 256 by omega))
    rcases hN with y | ⟨a, h1, h2, h3, h4, h5⟩
    · rw [y.1]
      refine B_X11_reach_39 m1 Q _ ⟨fun _ => h m1 d1 (fun q hq => ⟨(d2 q hq).1, by rcases (d2 q hq).2 with z | z; exact Or.inl z; exact Or.inr (by omega)⟩) ?_, fun z => absurd rfl z⟩
      have hgr := mgr hW
      have ef : ∀ q, q < 256 → fvt m1 q = fv m1 q := fun q hq => if_pos hq
      refine ⟨by rw [ef g hg]; exact d4, fun a b hab hl => ?_, fun q hq => ?_⟩
      · have hx := hgr a b hab
        rw [ef a hx.1, ef b hx.2.1]
        exact d6 a b (all a hx.1) hab
      · by_cases c : q < 256
        · rw [ef q c] at hq ⊢
          rcases d5 q c hq with z | ⟨x, h1, h2, h3, h4⟩
          · exact Or.inl z
          · have hx := hgr x q h2
            exact Or.inr ⟨x, h2, by rw [ef x hx.1]; exact h3, by rw [ef x hx.1]; exact h4⟩
        · unfold fvt at hq
          rw [if_neg c] at hq
          omega
    · rw [all a h2] at h3
      cases h3
  | succ d ih =>
    intro nd m1 nw hd hI hN
    obtain ⟨d1, d2, d3, d4, d5, d6, d7, d8, d9⟩ := hI
    have hgr := mgr hW
    rcases hN with y | ⟨a, h1, h2, h3, h4, h5⟩
    · rw [y.1]
      refine B_X11_reach_39 m1 Q _ ⟨fun _ => h m1 d1 (fun q hq => ⟨(d2 q hq).1, by rcases (d2 q hq).2 with z | z; exact Or.inl z; exact Or.inr (by omega)⟩) ?_, fun z => absurd rfl z⟩
      have ef : ∀ q, q < 256 → fvt m1 q = fv m1 q := fun q hq => if_pos hq
      refine ⟨by rw [ef g hg]; exact d4, fun a b hab hl => ?_, fun q hq => ?_⟩
      · have hx := hgr a b hab
        rw [ef a hx.1] at hl ⊢
        rw [ef b hx.2.1]
        have hda : dn m1 a = true := by
          cases hp : dn m1 a
          · have := y.2 a hx.1 hp
            omega
          · rfl
        exact d6 a b hda hab
      · by_cases c : q < 256
        · rw [ef q c] at hq ⊢
          rcases d5 q c hq with z | ⟨x, h1, h2, h3, h4⟩
          · exact Or.inl z
          · have hx := hgr x q h2
            exact Or.inr ⟨x, h2, by rw [ef x hx.1]; exact h3, by rw [ef x hx.1]; exact h4⟩
        · unfold fvt at hq
          rw [if_neg c] at hq
          omega
    · rw [h1]
      refine B_X11_reach_39 m1 Q _ ⟨fun z => absurd ((iI_eq (b := -1) (by omega) (by omega) (by omega) (by omega)).mp z) (by omega), fun _ => ?_⟩
      rw [iI_cl (by omega) (by omega), Int.toNat_natCast, iI_in (by omega) (by omega)]
      refine ⟨by omega, ?_⟩
      have e124 : (am_pI m1 125 a 1).1 124 = m1.1 124 := by rw [am_pI_ne (by decide)]
      have efv : ∀ q, fv (am_pI m1 125 a 1) q = fv m1 q := fun q => by unfold fv; rw [e124]
      have hnd : nd ≤ 255 := by omega
      refine S_reachK m Q hW (am_pI m1 125 a 1) a h2 (d9 a h2 h4) (d1.pI (by decide) (by decide) _ _) ?_ (by rw [efv]; exact h4) (fun m2 hK => ?_)
      · intro q hq
        rw [efv, e124]
        exact ⟨(d2 q hq).1, by rcases (d2 q hq).2 with z | z; exact Or.inl z; exact Or.inr (by omega)⟩
      obtain ⟨k1, k2, k3, k4, k5⟩ := hK
      have hdn : ∀ x, dn m2 x = if x = a then true else dn m1 x := by
        intro x
        rw [← dn_upd]
        unfold dn
        rw [k2]
      have k4' : ∀ b, b < 256 → fv m2 b = fv m1 b ∨ (med m a b = true ∧ fv m2 b = fv m1 a + mw m b a ∧ fv m2 b < fv m1 b) := by
        intro b hb
        have := k4 b hb
        rw [efv, efv] at this
        exact this
      have le2 : ∀ b, b < 256 → fv m2 b ≤ fv m1 b := by
        intro b hb
        rcases k4' b hb with z | z <;> omega
      have eqd : ∀ x, x < 256 → dn m2 x = true → fv m2 x = fv m1 x := by
        intro x hx hd
        rcases k4' x hx with z | z
        · exact z
        · rw [hdn] at hd
          by_cases c : x = a
          · rw [c] at z
            omega
          · rw [if_neg c] at hd
            have := d7 x a hx h2 hd h3
            omega
      have low : ∀ x y, x < 256 → y < 256 → fv m1 x ≤ fv m1 a → fv m1 x ≤ fv m1 y → fv m1 x ≤ fv m2 y := by
        intro x y _ hy z1 z2
        rcases k4' y hy with z | z <;> omega
      refine S_reachN m Q m2 k3 (fun nw' hN' => ih (nd + 1) m2 nw' (by omega) ⟨k1, ?_, ?_, ?_, ?_, ?_, ?_, ?_, ?_⟩ hN')
      · intro q hq
        refine ⟨(k3 q hq).1, ?_⟩
        rcases k4' q hq with z | z
        · rw [z]
          rcases (d2 q hq).2 with w | w
          · exact Or.inl w
          · exact Or.inr (by omega)
        · have hw := hgr a q z.1
          have := (d2 a h2).2
          exact Or.inr (by omega)
      · have e := fb_ct_upd (dn m1) true h2
        rw [h3, if_neg Bool.false_ne_true, if_pos rfl] at e
        rw [show dn m2 = fun k => if k = a then true else dn m1 k from funext hdn]
        omega
      · have := le2 g hg
        omega
      · intro q hq hl
        rcases k4' q hq with z | z
        · rcases d5 q hq (by omega) with w | ⟨x, w1, w2, w3, w4⟩
          · exact Or.inl w
          · have hx := hgr x q w2
            have dx : dn m2 x = true := by
              rw [hdn]
              split
              · rfl
              · exact w1
            have := eqd x hx.1 dx
            exact Or.inr ⟨x, dx, w2, by omega, by omega⟩
        · have da : dn m2 a = true := by rw [hdn, if_pos rfl]
          have := eqd a h2 da
          exact Or.inr ⟨a, da, z.1, by omega, by omega⟩
      · intro x y hd hxy
        have hx := hgr x y hxy
        have ex := eqd x hx.1 hd
        rw [hdn] at hd
        by_cases c : x = a
        · rw [c] at hxy ex ⊢
          obtain ⟨_, _, k, hk, hcb⟩ := med_k hxy
          have := k5 k hk y hcb
          rw [efv] at this
          omega
        · rw [if_neg c] at hd
          have := d6 x y hd hxy
          have := le2 y hx.2.1
          omega
      · intro x y hx hy hdx hdy
        rw [eqd x hx hdx]
        rw [hdn] at hdx hdy
        by_cases c : y = a
        · rw [if_pos c] at hdy; cases hdy
        · rw [if_neg c] at hdy
          by_cases c2 : x = a
          · rw [c2]
            exact low a y h2 hy (Nat.le_refl _) (h5 y hy hdy)
          · rw [if_neg c2] at hdx
            exact low x y hx hy (d7 x a hx h2 hdx h3) (d7 x y hx hy hdx hdy)
      · intro x hx hdx
        rw [eqd x hx hdx]
        rw [hdn] at hdx
        by_cases c : x = a
        · rw [c]; exact h4
        · rw [if_neg c] at hdx
          exact d8 x hx hdx
      · intro q hq hl
        rcases k4' q hq with z | z
        · exact d9 q hq (by omega)
        · obtain ⟨_, _, k, hk, hcb⟩ := med_k z.1
          have := (mbd_b hW.2.2.2 h2 hk).resolve_left (by omega)
          rw [hcb, Int.toNat_natCast] at this
          exact this.2.2
theorem S_reach (m : am_M) (Q : Option Value → am_M → Prop) (hW : MW m) (g : Nat) (hg : g < 256) (ht : mt m g = true) (h : ∀ m1, Fm [124, 125] [] m m1 → FB m1 (460 * 256) → tab (med m) (mw m) g (fvt m1) → Q none m1) : am_WP YL 210 0 0 0 [some (.ref 109), some (.int (iI (g : Int))), none, none, none] [] m Q := by
  refine B_X11_reach_0 m Q _ ?_
  have := lp (N := 256) (W := fun k m1 => am_WP YL 210 0 0 2 [some (.ref 109), some (.int (iI (g : Int))), some (.int (iI (k : Int))), none, none] [] m1 Q) (fun k m1 => Fm [124, 125] [] m m1 ∧ (∀ q, q < k → m1.1 124 q = 1000000000) ∧ (∀ q, q < k → m1.1 125 q = 0)) (s := m) ⟨Fm.rf _ _ m, fun q hq => absurd hq (Nat.not_lt_zero q), fun q hq => absurd hq (Nat.not_lt_zero q)⟩ ?_ ?_
  · exact this
  · rintro k m1 hk ⟨f1, b1, b2⟩ ih
    refine B_X11_reach_2 m1 Q _ _ ⟨fun z => absurd ((iI_le (a := 256) (by omega) (by omega) (by omega) (by omega)).mp z) (by omega), fun _ => ?_⟩
    rw [iI_cl (a := (k : Int)) (by omega) (by omega), Int.toNat_natCast, iI_in (a := (k : Int)) (by omega) (by omega), iI_i1]
    refine ⟨by omega, by omega, ih _ ⟨(f1.pI (by decide) (by decide) _ _).pI (by decide) (by decide) _ _, fun q hq => ?_, fun q hq => ?_⟩⟩
    · rw [am_pI_ne (by decide), am_pI_at]
      by_cases c : q = k
      · rw [if_pos c]
      · rw [if_neg c]; exact b1 q (by omega)
    · rw [am_pI_at]
      by_cases c : q = k
      · rw [if_pos c]
      · rw [if_neg c, am_pI_ne (by decide)]; exact b2 q (by omega)
  · rintro m1 ⟨f1, b1, b2⟩
    refine B_X11_reach_2 m1 Q _ _ ⟨fun _ => ?_, fun z => absurd (show (256 : Int32) ≤ iI ((256 : Nat) : Int) by decide) z⟩
    rw [iI_cl (by omega) (by omega), Int.toNat_natCast, iI_in (by omega) (by omega)]
    refine ⟨by omega, ?_⟩
    have v : ∀ q, q < 256 → (am_pI m1 124 g 0).1 124 q = iI ((if q = g then 0 else 1000000000 : Nat) : Int) := by
      intro q hq
      rw [am_pI_at]
      by_cases c : q = g
      · rw [if_pos c, if_pos c]; rfl
      · rw [if_neg c, if_neg c, b1 q hq]; rfl
    have fvv : ∀ q, q < 256 → fv (am_pI m1 124 g 0) q = if q = g then 0 else 1000000000 := by
      intro q hq
      unfold fv
      rw [v q hq, iI_to (by split <;> omega) (by split <;> omega), Int.toNat_natCast]
    have dz : ∀ q, q < 256 → dn (am_pI m1 124 g 0) q = false := by
      intro q hq
      unfold dn
      rw [am_pI_ne (by decide), decide_eq_true (b2 q hq)]
      rfl
    have fg : fv (am_pI m1 124 g 0) g = 0 := by rw [fvv g hg, if_pos rfl]
    have fo : ∀ q, q < 256 → q ≠ g → fv (am_pI m1 124 g 0) q = 1000000000 := fun q hq c => by rw [fvv q hq, if_neg c]
    refine S_reachL m Q hW g hg h 256 0 (am_pI m1 124 g 0) (g : Int) (by omega) ⟨f1.pI (by decide) (by decide) _ _, ?_, (fb_ct_zero.mpr dz).symm, fg, ?_, ?_, ?_, ?_, ?_⟩ (Or.inr ⟨g, rfl, hg, dz g hg, by omega, fun q _ _ => by omega⟩)
    · intro q hq
      rw [fvv q hq]
      refine ⟨v q hq, ?_⟩
      split
      · exact Or.inr (Nat.zero_le _)
      · exact Or.inl rfl
    · intro q hq hl
      by_cases c : q = g
      · exact Or.inl c
      · rw [fo q hq c] at hl
        omega
    · intro x y hd hxy
      rw [dz x (mgr hW x y hxy).1] at hd
      cases hd
    · intro x y hx _ hd _
      rw [dz x hx] at hd
      cases hd
    · intro x hx hd
      rw [dz x hx] at hd
      cases hd
    · intro q hq hl
      by_cases c : q = g
      · rw [c]; exact ht
      · rw [fo q hq c] at hl
        omega
