/-! ===== next ===== -/
def ldn (d : Nat) : Int := if d = 0 ∨ d = 1 ∨ d = 7 then -1 else if d = 2 ∨ d = 6 then 0 else 1
def lrt (d : Nat) : Int := if d = 0 ∨ d = 4 then 0 else if d < 4 then 1 else -1
theorem ld_b (d : Nat) : (ldn d).natAbs ≤ 50 ∧ (lrt d).natAbs ≤ 50 := by
  unfold ldn lrt
  constructor
  · split
    · decide
    · split <;> decide
  · split
    · decide
    · split <;> decide
def nxw (gt : Nat → Int) (W : Int) : Nat → Int × Int
  | 0 => (-1, W)
  | k + 1 => if gt k < (nxw gt W k).2 then ((k : Int), gt k) else nxw gt W k
theorem nxw_b {gt : Nat → Int} {W : Int} (hW : 257 ≤ W) (hW2 : W ≤ 1000000000) (h : ∀ k, 0 ≤ gt k ∧ gt k ≤ 256) : ∀ k, -1 ≤ (nxw gt W k).1 ∧ (nxw gt W k).1 < k ∧ 0 ≤ (nxw gt W k).2 ∧ (nxw gt W k).2 ≤ W
  | 0 => ⟨by show (-1 : Int) ≤ -1; omega, by show (-1 : Int) < 0; omega, by show 0 ≤ W; omega, by show W ≤ W; omega⟩
  | k + 1 => by
    have := nxw_b hW hW2 h k
    have := h k
    unfold nxw
    split
    · exact ⟨by show -1 ≤ (k : Int); omega, by show (k : Int) < _; omega, by show 0 ≤ gt k; omega, by show gt k ≤ W; omega⟩
    · omega
theorem nxw_eq {gt gt' : Nat → Int} {W : Int} (hW : 257 ≤ W) (h : ∀ k, 0 ≤ gt k ∧ gt k ≤ 256) {n : Nat} (he : ∀ k, k < n → gt k = gt' k) : ∀ k, k ≤ n → (nxw gt 257 k).1 = (nxw gt' W k).1 ∧ (0 < k → (nxw gt 257 k).2 = (nxw gt' W k).2)
  | 0, _ => ⟨rfl, fun z => absurd z (Nat.lt_irrefl 0)⟩
  | k + 1, hk => by
    have ih := nxw_eq hW h he k (by omega)
    have hg := h k
    have e := he k (by omega)
    unfold nxw
    rw [← e]
    by_cases k0 : k = 0
    · subst k0
      have c1 : gt 0 < (nxw gt 257 0).2 := by show gt 0 < 257; omega
      have c2 : gt 0 < (nxw gt' W 0).2 := by show gt 0 < W; omega
      rw [if_pos c1, if_pos c2]
      exact ⟨rfl, fun _ => rfl⟩
    · have e2 := ih.2 (by omega)
      by_cases c : gt k < (nxw gt 257 k).2
      · rw [if_pos c, if_pos (by omega)]
        exact ⟨rfl, fun _ => rfl⟩
      · rw [if_neg c, if_neg (by omega)]
        exact ⟨ih.1, fun _ => e2⟩
def gre (p : Nat → Bool) (all : Nat) : Int := if ((fb_ct p 256 : Nat) : Int) < (all : Int) - (fb_ct p 256 : Int) then (all : Int) - (fb_ct p 256 : Int) else (fb_ct p 256 : Int)
theorem gre_b (p : Nat → Bool) {all : Nat} (h : all ≤ 256) : 0 ≤ gre p all ∧ gre p all ≤ 256 := by
  have := fb_ct_le p 256
  unfold gre
  split <;> omega
theorem gre_cong {p r : Nat → Bool} (all : Nat) (h : ∀ q, q < 256 → p q = r q) : gre p all = gre r all := by
  unfold gre
  rw [fb_ct_cong h]
def LK (m : am_M) : Prop := ∀ j, j < 8 → m.1 0 j = iI (ldn j) ∧ m.1 1 j = iI (lrt j)
noncomputable def cnp (m : am_M) (a k q : Nat) : Bool := (wb (m.2.1 (a + 1)) q && tsee m (k / 8) q) && icone (bse m (k / 8)) q (ldn (k % 8)) (lrt (k % 8)) 41
theorem S_cnext (m : am_M) (Q : Option Value → am_M → Prop) (hK0 : LK m) (n : Nat) (hT : tw_ok m n) (hK : tk_ok m n) (hh : ∀ k, k < 256 → ((m.1 5 k).toInt).natAbs ≤ 3000) (f : Int) (hbf : -2147483648 ≤ f ∧ f ≤ 2147483647)
    (h0 : ¬ cst m f = 0 → Q (some (.int (-1))) m)
    (h1 : cst m f = 0 → ∀ m1, Ag [12, 19, 21, 23, 25, 27, 29, 31, 33, 108] m m1 → tk_ok m1 n → Q (some (.int (iI (nxw (fun k => gre (cnp m (pch m f) k) (fb_ct (wb (m.2.1 (pch m f + 1))) 256)) 257 (8 * n)).1))) m1) :
    am_WP YL 133 0 0 0 [some (.ref 3), some (.int (iI f)), none, none, none, none, none, none, none, none] [] m Q := by
  have hn8 := hT.1
  have cb := cst_b m f
  refine B_X10_next_0 m Q _ (S_stateOf m _ f hbf (B_X10_next_8 m Q _ _ ?_))
  rw [show (0 : Int32) = iI 0 from rfl, iI_eq (by omega) (by omega) (by omega) (by omega)]
  refine ⟨fun z => ?_, fun z => h0 z⟩
  have h1 := h1 z
  have hfo := cst_one (m := m) (f := f) (by omega)
  have hf0 := of_decide_eq_true hfo
  have ep : pch m f = 47 + 2 * f.toNat := by unfold pch; rw [if_pos hfo]
  have sqa : ∀ m1, sw_sq m1 (pch m f) := fun m1 => by rw [ep]; exact (sq_p m1 f.toNat (by omega)).1
  have s107 : ∀ m1, sw_sq m1 107 := fun m1 => ⟨rfl, rfl, rfl, rfl⟩
  obtain ⟨a, ha⟩ : ∃ a, a = pch m f := ⟨_, rfl⟩
  have ha1 : 47 ≤ a ∧ a ≤ 85 := by omega
  rw [← ha] at h1 sqa
  refine S_patchOf m _ f hbf ?_
  rw [← ha]
  refine B_X10_next_21r m Q a (sqa m) (S_size m _ a (sqa m) (B_X10_next_26 m Q a (sqa m) _ ?_))
  obtain ⟨all, hall⟩ : ∃ k, k = fb_ct (wb (m.2.1 (a + 1))) 256 := ⟨_, rfl⟩
  have hal : all ≤ 256 := by rw [hall]; exact fb_ct_le _ 256
  rw [← hall] at h1 ⊢
  obtain ⟨gt, hgt⟩ : ∃ g : Nat → Int, g = fun k => gre (cnp m a k) all := ⟨_, rfl⟩
  rw [← hgt] at h1
  have gb : ∀ k, 0 ≤ gt k ∧ gt k ≤ 256 := fun k => by rw [hgt]; exact gre_b _ hal
  have nb := nxw_b (gt := gt) (W := 257) (by omega) (by omega) gb
  have an : a + 1 ∉ [12, 19, 21, 23, 25, 27, 29, 31, 33, 108] := by
    intro w
    simp at w
    omega
  have := lp (N := n) (W := fun t m1 => am_WP YL 133 0 0 38 [some (.ref 3), none, some (.ref a), some (.int (iI (all : Int))), some (.int (iI (nxw gt 257 (8 * t)).1)), some (.int (iI (nxw gt 257 (8 * t)).2)), some (.int (iI (t : Int))), none, none, none] [] m1 Q) (fun t m1 => Ag [12, 19, 21, 23, 25, 27, 29, 31, 33, 108] m m1 ∧ tk_ok m1 n) (s := m) ⟨Ag.rf _ m, hK⟩ ?_ ?_
  · exact this
  · rintro t m1 ht ⟨g1, g2⟩ ih
    have hT1 : tw_ok m1 n := ⟨hT.1, by rw [g1.I (show 9 ∉ _ by decide)]; exact hT.2.1, by rw [g1.I (show 10 ∉ _ by decide), g1.I (show 11 ∉ _ by decide)]; exact hT.2.2⟩
    have tb := tw_b hT ht
    refine B_X10_next_38 m1 Q a (sqa m1) _ _ _ _ (B_X7_number_0 m1 _ (B_X10_next_47 m1 Q a (sqa m1) _ _ _ _ _ _ ?_))
    rw [hT1.2.1]
    refine ⟨fun y => absurd ((iI_le (by omega) (by omega) (by omega) (by omega)).mp y) (by omega), fun _ => S_copyFrom m1 _ 107 a (s107 m1) (sqa m1) (by omega) (B_X10_next_58 _ Q a (sqa _) _ _ _ _ ?_)⟩
    have g3 : Ag [12, 19, 21, 23, 25, 27, 29, 31, 33, 108] m1 (am_wJ m1 108 (am_fx 4 (m1.2.1 (a + 1)) (m1.2.1 108))) := (Ag.rf _ m1).wJ (by decide) _
    have w3 : ∀ q, q < 256 → wb ((am_wJ m1 108 (am_fx 4 (m1.2.1 (a + 1)) (m1.2.1 108))).2.1 108) q = wb (m.2.1 (a + 1)) q := by
      intro q hq
      rw [am_wJ_at, wb_fx hq, g1.J an]
    have k3 : tk_ok (am_wJ m1 108 (am_fx 4 (m1.2.1 (a + 1)) (m1.2.1 108))) n := by
      intro s hs hz q hq
      rw [tsee_fr (m := m1) (am_wJ_ne (by decide)) rfl rfl rfl, am_wJ_ne (show 19 + 2 * s ≠ 108 by omega)]
      exact g2 s hs hz q hq
    show am_WP YL 87 0 0 0 [some (.ref 9), some (.int (iI (t : Int)))] [] (am_wJ m1 108 (am_fx 4 (m1.2.1 (a + 1)) (m1.2.1 108))) _
    generalize am_wJ m1 108 (am_fx 4 (m1.2.1 (a + 1)) (m1.2.1 108)) = m2 at g3 w3 k3 ⊢
    have g2' := g1.tr g3
    have hT2 : tw_ok m2 n := ⟨hT.1, by rw [g2'.I (show 9 ∉ _ by decide)]; exact hT.2.1, by rw [g2'.I (show 10 ∉ _ by decide), g2'.I (show 11 ∉ _ by decide)]; exact hT.2.2⟩
    refine S_seenBy m2 _ n t ht hT2 k3 (by rw [g2'.I (show 5 ∉ _ by decide)]; exact hh) (fun m3 f3 b1 b2 => ?_)
    have q3 := (sq_t m3 t (by omega)).1
    have n108 : 108 ∉ [12, 19 + 2 * t] := by
      intro w
      simp at w
      omega
    have f3' : Ag [12, 19, 21, 23, 25, 27, 29, 31, 33, 108] m2 m3 := f3.sub (fun x hx => by
      rcases List.mem_cons.mp hx with w | w
      · rw [w]; decide
      · rw [List.mem_singleton.mp w]
        exact (by decide : ∀ t, t < 8 → 19 + 2 * t ∈ [12, 19, 21, 23, 25, 27, 29, 31, 33, 108]) t (by omega))
    refine B_X10_next_71r m3 Q a (sqa m3) _ _ _ _ 107 (s107 m3) (18 + 2 * t) q3 (S_keepOnly m3 _ 107 (18 + 2 * t) (s107 m3) q3 (by omega) (B_X10_next_74 _ Q a (sqa _) _ _ _ _ ?_))
    have es : ∀ s q, tsee m2 s q = tsee m s q := fun s q => tsee_fr (g2'.J (by decide)) (g2'.I (by decide)) (g2'.I (by decide)) (g2'.I (by decide)) s q
    have g4 : Ag [12, 19, 21, 23, 25, 27, 29, 31, 33, 108] m (am_wJ m3 108 (am_fx 4 (fun j => m3.2.1 108 j &&& m3.2.1 (18 + 2 * t + 1) j) (m3.2.1 108))) := (g2'.tr f3').wJ (by decide) _
    have w4 : ∀ q, q < 256 → wb ((am_wJ m3 108 (am_fx 4 (fun j => m3.2.1 108 j &&& m3.2.1 (18 + 2 * t + 1) j) (m3.2.1 108))).2.1 108) q = (wb (m.2.1 (a + 1)) q && tsee m t q) := by
      intro q hq
      rw [am_wJ_at, wb_fx hq, wb_and', f3.J n108, w3 q hq, show 18 + 2 * t + 1 = 19 + 2 * t by omega, b2 q hq, es]
    have k4 : tk_ok (am_wJ m3 108 (am_fx 4 (fun j => m3.2.1 108 j &&& m3.2.1 (18 + 2 * t + 1) j) (m3.2.1 108))) n := by
      intro s hs hz q hq
      rw [tsee_fr (m := m3) (am_wJ_ne (by decide)) rfl rfl rfl, am_wJ_ne (show 19 + 2 * s ≠ 108 by omega)]
      exact b1 s hs hz q hq
    show am_WP YL 133 0 0 77 [some (.ref 3), none, some (.ref a), some (.int (iI (all : Int))), some (.int (iI (nxw gt 257 (8 * t)).1)), some (.int (iI (nxw gt 257 (8 * t)).2)), some (.int (iI (t : Int))), some (.int 0), none, none] [] (am_wJ m3 108 (am_fx 4 (fun j => m3.2.1 108 j &&& m3.2.1 (18 + 2 * t + 1) j) (m3.2.1 108))) Q
    generalize am_wJ m3 108 (am_fx 4 (fun j => m3.2.1 108 j &&& m3.2.1 (18 + 2 * t + 1) j) (m3.2.1 108)) = m4 at g4 w4 k4 ⊢
    have hT4 : tw_ok m4 n := ⟨hT.1, by rw [g4.I (show 9 ∉ _ by decide)]; exact hT.2.1, by rw [g4.I (show 10 ∉ _ by decide), g4.I (show 11 ∉ _ by decide)]; exact hT.2.2⟩
    have := lp (N := 8) (W := fun d (_ : Unit) => am_WP YL 133 0 0 77 [some (.ref 3), none, some (.ref a), some (.int (iI (all : Int))), some (.int (iI (nxw gt 257 (8 * t + d)).1)), some (.int (iI (nxw gt 257 (8 * t + d)).2)), some (.int (iI (t : Int))), some (.int (iI (d : Int))), none, none] [] m4 Q) (fun _ _ => True) (s := ()) trivial ?_ ?_
    · exact this
    · intro d _ hd _ ihd
      have ihd := ihd () trivial
      have nbd := nb (8 * t + d)
      refine B_X10_next_77 m4 Q a (sqa m4) _ _ _ _ _ ⟨fun y => absurd ((iI_le (a := 8) (by omega) (by omega) (by omega) (by omega)).mp y) (by omega), fun _ => S_base m4 _ t (tw_1 hT4 ht) (B_X10_next_101 m4 Q a (sqa m4) _ _ _ _ _ 107 (s107 m4) _ ?_)⟩
      have lk := hK0 d hd
      have ldb := ld_b d
      rw [iI_cl (a := (d : Int)) (by omega) (by omega), Int.toNat_natCast, iI_in (a := (d : Int)) (by omega) (by omega), g4.I (show 0 ∉ _ by decide), g4.I (show 1 ∉ _ by decide), g4.I (show 10 ∉ _ by decide), lk.1, lk.2, tb.1, show (41 : Int32) = iI 41 from rfl]
      refine ⟨by omega, by omega, am_wk [none, some (.ref 107), some (.int (iI (bse m t : Int))), some (.int (iI (ldn d))), some (.int (iI (lrt d))), some (.int (iI 41)), none, none] (by exact ⟨rfl, rfl, rfl, rfl, rfl, trivial⟩) (S_countInCone m4 _ 107 (s107 m4) (bse m t) tb.2.1 (ldn d) (lrt d) 41 ldb.1 ldb.2 (by decide) (B_X10_next_118 m4 Q a (sqa m4) _ _ _ _ _ _ ?_))⟩
      have eg : gt (8 * t + d) = gre (fun q => wb (m4.2.1 (107 + 1)) q && icone (bse m t) q (ldn d) (lrt d) 41) all := by
        rw [hgt]
        refine gre_cong all (fun q hq => ?_)
        unfold cnp
        rw [show (8 * t + d) / 8 = t by omega, show (8 * t + d) % 8 = d by omega, ← w4 q hq]
      have gb1 := gb (8 * t + d)
      have cl := fb_ct_le (fun q => wb (m4.2.1 (107 + 1)) q && icone (bse m t) q (ldn d) (lrt d) 41) 256
      simp (disch := omega) only [iI_sub, iI_lt, iI_ite]
      rw [show (if ((fb_ct (fun q => wb (m4.2.1 (107 + 1)) q && icone (bse m t) q (ldn d) (lrt d) 41) 256 : Nat) : Int) < (all : Int) - (fb_ct (fun q => wb (m4.2.1 (107 + 1)) q && icone (bse m t) q (ldn d) (lrt d) 41) 256 : Int) then (all : Int) - (fb_ct (fun q => wb (m4.2.1 (107 + 1)) q && icone (bse m t) q (ldn d) (lrt d) 41) 256 : Int) else (fb_ct (fun q => wb (m4.2.1 (107 + 1)) q && icone (bse m t) q (ldn d) (lrt d) 41) 256 : Int)) = gt (8 * t + d) from eg.symm, iI_le (by omega) (by omega) (by omega) (by omega), iI_i1, show (8 : Int32) = iI 8 from rfl, iI_mul, iI_add]
      refine ⟨fun y => ?_, fun y => ?_⟩
      · have e : nxw gt 257 (8 * t + d + 1) = nxw gt 257 (8 * t + d) := if_neg (by omega)
        rw [show 8 * t + (d + 1) = 8 * t + d + 1 by omega, e] at ihd
        exact ihd
      · have e : nxw gt 257 (8 * t + d + 1) = (((8 * t + d : Nat) : Int), gt (8 * t + d)) := if_pos (by omega)
        rw [show 8 * t + (d + 1) = 8 * t + d + 1 by omega, e] at ihd
        exact ihd
    · intro _ _
      refine B_X10_next_77 m4 Q a (sqa m4) _ _ _ _ _ ⟨fun _ => ?_, fun y => absurd (show (8 : Int32) ≤ iI ((8 : Nat) : Int) by decide) y⟩
      rw [iI_i1]
      exact ih m4 ⟨g4, k4⟩
  · rintro m1 ⟨g1, g2⟩
    have hT1 : m1.1 9 9 = iI (n : Int) := by rw [g1.I (show 9 ∉ _ by decide)]; exact hT.2.1
    refine B_X10_next_38 m1 Q a (sqa m1) _ _ _ _ (B_X7_number_0 m1 _ (B_X10_next_47 m1 Q a (sqa m1) _ _ _ _ _ _ ?_))
    rw [hT1]
    exact ⟨fun _ => h1 m1 g1 g2, fun y => absurd ((iI_le (by omega) (by omega) (by omega) (by omega)).mpr (Int.le_refl _)) y⟩
theorem S_downOf (m : am_M) (Q : Option Value → am_M → Prop) (d : Nat) (hd : d < 8) (h : Q (some (.int (iI (ldn d)))) m) : am_WP YL 205 0 0 0 [some (.int (iI (d : Int)))] [] m Q := by
  refine B_X11_downOf_0 m Q _ ?_
  match d, hd, h with
  | 0, _, h => exact ⟨fun _ => h, fun z => absurd rfl z⟩
  | 1, _, h => exact ⟨fun z => absurd z (by decide), fun _ => ⟨fun _ => h, fun z => absurd rfl z⟩⟩
  | 2, _, h => exact ⟨fun z => absurd z (by decide), fun _ => ⟨fun z => absurd z (by decide), fun _ => ⟨fun _ => ⟨fun _ => h, fun z => absurd rfl z⟩, fun z => absurd z (by decide)⟩⟩⟩
  | 3, _, h => exact ⟨fun z => absurd z (by decide), fun _ => ⟨fun z => absurd z (by decide), fun _ => ⟨fun _ => ⟨fun z => absurd z (by decide), fun _ => ⟨fun _ => h, fun z => absurd z (by decide)⟩⟩, fun z => absurd z (by decide)⟩⟩⟩
  | 4, _, h => exact ⟨fun z => absurd z (by decide), fun _ => ⟨fun z => absurd z (by decide), fun _ => ⟨fun _ => ⟨fun z => absurd z (by decide), fun _ => ⟨fun _ => h, fun z => absurd z (by decide)⟩⟩, fun z => absurd z (by decide)⟩⟩⟩
  | 5, _, h => exact ⟨fun z => absurd z (by decide), fun _ => ⟨fun z => absurd z (by decide), fun _ => ⟨fun _ => ⟨fun z => absurd z (by decide), fun _ => ⟨fun _ => h, fun z => absurd z (by decide)⟩⟩, fun z => absurd z (by decide)⟩⟩⟩
  | 6, _, h => exact ⟨fun z => absurd z (by decide), fun _ => ⟨fun z => absurd z (by decide), fun _ => ⟨fun _ => ⟨fun z => absurd z (by decide), fun _ => ⟨fun z => absurd rfl z, fun _ => h⟩⟩, fun z => absurd z (by decide)⟩⟩⟩
  | 7, _, h => exact ⟨fun z => absurd z (by decide), fun _ => ⟨fun z => absurd z (by decide), fun _ => ⟨fun z => absurd rfl z, fun _ => h⟩⟩⟩
theorem S_rightOf (m : am_M) (Q : Option Value → am_M → Prop) (d : Nat) (hd : d < 8) (h : Q (some (.int (iI (lrt d)))) m) : am_WP YL 206 0 0 0 [some (.int (iI (d : Int)))] [] m Q := by
  refine B_X11_rightOf_0 m Q _ ?_
  match d, hd, h with
  | 0, _, h => exact ⟨fun _ => h, fun z => absurd rfl z⟩
  | 1, _, h => exact ⟨fun z => absurd z (by decide), fun _ => ⟨fun _ => ⟨fun z => absurd z (by decide), fun _ => h⟩, fun z => absurd z (by decide)⟩⟩
  | 2, _, h => exact ⟨fun z => absurd z (by decide), fun _ => ⟨fun _ => ⟨fun z => absurd z (by decide), fun _ => h⟩, fun z => absurd z (by decide)⟩⟩
  | 3, _, h => exact ⟨fun z => absurd z (by decide), fun _ => ⟨fun _ => ⟨fun z => absurd z (by decide), fun _ => h⟩, fun z => absurd z (by decide)⟩⟩
  | 4, _, h => exact ⟨fun z => absurd z (by decide), fun _ => ⟨fun z => absurd rfl z, fun _ => h⟩⟩
  | 5, _, h => exact ⟨fun z => absurd z (by decide), fun _ => ⟨fun _ => ⟨fun _ => h, fun z => absurd (show (4 : Int32) ≤ iI ((5 : Nat) : Int) by decide) z⟩, fun z => absurd z (by decide)⟩⟩
  | 6, _, h => exact ⟨fun z => absurd z (by decide), fun _ => ⟨fun _ => ⟨fun _ => h, fun z => absurd (show (4 : Int32) ≤ iI ((6 : Nat) : Int) by decide) z⟩, fun z => absurd z (by decide)⟩⟩
  | 7, _, h => exact ⟨fun z => absurd z (by decide), fun _ => ⟨fun _ => ⟨fun _ => h, fun z => absurd (show (4 : Int32) ≤ iI ((7 : Nat) : Int) by decide) z⟩, fun z => absurd z (by decide)⟩⟩
noncomputable def mnp (m : am_M) (f : Int32) (k q : Nat) : Bool := mlk m (mbs m (k / 8)) (mab m (k / 8)) (ldn (k % 8)) (lrt (k % 8)) 41 (-1) true q && mpt m f 60 q
theorem S_mnext (m : am_M) (Q : Option Value → am_M → Prop) (hW : MW m) (E : Nat) (hE : E ≤ 20) (h348 : m.1 115 348 = iI (E : Int)) (n : Nat) (hT : mtw m n) (f : Int) (hbf : -2147483648 ≤ f ∧ f ≤ 2147483647)
    (h0 : mouok m f = false → Q (some (.int (-1))) m)
    (h1 : mouok m f = true → ∀ m1, Fm [119, 123] [6, 7, 8] m m1 → Q (some (.int (iI (nxw (fun k => gre (mnp m (iI f) k) (fb_ct (mpt m (iI f) 60) 256)) 1000000000 (8 * n)).1))) m1) :
    am_WP YL 207 0 0 0 [some (.ref 109), some (.int (iI f)), none, none, none, none, none, none, none, none] [] m Q := by
  have hn8 := hT.1
  refine B_X11_next_0 m Q _ (S_isFire m _ f hbf (B_X11_next_5 m Q _ _ (bz (fun z => h0 (by unfold mouok; rw [z, Bool.false_and])) (fun z1 => ?_))))
  have hf : 0 ≤ f ∧ f < (E : Int) := by
    have := of_decide_eq_true z1
    rw [h348, iI_to (by omega) (by omega)] at this
    exact this
  obtain ⟨f, rfl⟩ : ∃ n : Nat, f = n := ⟨f.toNat, by omega⟩
  have ek : mouok m f = decide (m.1 115 (300 + f) = 0) := by unfold mouok; rw [z1, Bool.true_and, Int.toNat_natCast]
  have e3 : ((300 : Int32) + iI (f : Int)) = iI ((300 + f : Nat) : Int) := iI_add 300 _
  rw [e3, iI_cl (by omega) (by omega), Int.toNat_natCast, iI_in (by omega) (by omega)]
  refine ⟨by omega, fun z => ?_, fun z => h0 (by rw [ek, decide_eq_false z])⟩
  have h1 := h1 (by rw [ek, decide_eq_true z])
  obtain ⟨all, hall⟩ : ∃ k, k = fb_ct (mpt m (iI (f : Int)) 60) 256 := ⟨_, rfl⟩
  have hal : all ≤ 256 := by rw [hall]; exact fb_ct_le _ 256
  rw [← hall] at h1
  obtain ⟨gt, hgt⟩ : ∃ g : Nat → Int, g = fun k => gre (mnp m (iI (f : Int)) k) all := ⟨_, rfl⟩
  rw [← hgt] at h1
  have gb : ∀ k, 0 ≤ gt k ∧ gt k ≤ 256 := fun k => by rw [hgt]; exact gre_b _ hal
  have nb := nxw_b (gt := gt) (W := 1000000000) (by omega) (by omega) gb
  refine S_mpatch m _ (iI (f : Int)) (fun m0 f0 w0 => B_X11_next_28 m0 Q _ (S_msize m0 _ 119 4 0 rfl rfl (by decide) (by decide) (B_X11_next_37 m0 Q _ ?_)))
  rw [fb_ct_cong w0, ← hall]
  have := lp (N := n) (W := fun t m1 => am_WP YL 207 0 0 48 [some (.ref 109), none, none, some (.int (iI (all : Int))), some (.int (iI (nxw gt 1000000000 (8 * t)).1)), some (.int (iI (nxw gt 1000000000 (8 * t)).2)), some (.int (iI (t : Int))), none, none, none] [] m1 Q) (fun t m1 => Fm [119, 123] [6, 7, 8] m m1 ∧ m1.2.1 119 = m0.2.1 119) (s := m0) ⟨f0.sub (by decide) (by decide), rfl⟩ ?_ ?_
  · exact this
  · rintro t m1 ht ⟨g1, g2⟩ ih
    have tb := mtw_b hT ht
    have v : vp_in (iI (t : Int)) 8 := (iI_in (by omega) (by omega)).mpr (by omega)
    refine B_X11_next_48 m1 Q _ _ _ _ ?_
    rw [g1.2.2.1 5 (by decide), hT.2.1]
    refine ⟨fun y => absurd ((iI_le (by omega) (by omega) (by omega) (by omega)).mp y) (by omega), fun _ => ?_⟩
    have := lp (N := 8) (W := fun d m2 => am_WP YL 207 0 0 60 [some (.ref 109), none, none, some (.int (iI (all : Int))), some (.int (iI (nxw gt 1000000000 (8 * t + d)).1)), some (.int (iI (nxw gt 1000000000 (8 * t + d)).2)), some (.int (iI (t : Int))), some (.int (iI (d : Int))), none, none] [] m2 Q) (fun d m2 => Fm [119, 123] [6, 7, 8] m m2 ∧ m2.2.1 119 = m0.2.1 119) (s := m1) ⟨g1, g2⟩ ?_ ?_
    · exact this
    · rintro d m2 hd ⟨c1, c2⟩ ihd
      have nbd := nb (8 * t + d)
      refine B_X11_next_60 m2 Q _ _ _ _ _ ⟨fun y => absurd ((iI_le (a := 8) (by omega) (by omega) (by omega) (by omega)).mp y) (by omega), fun _ => ⟨v, v, S_downOf m2 _ d hd (B_X11_next_92 m2 Q _ _ _ _ _ 123 4 rfl rfl _ _ _ _ (S_rightOf m2 _ d hd (B_X11_next_97 m2 Q _ _ _ _ _ 123 4 rfl rfl _ _ _ _ _ ?_)))⟩⟩
      have ldb := ld_b d
      rw [iI_cl (a := (t : Int)) (by omega) (by omega), Int.toNat_natCast, c1.1 113 (by decide) (by decide), c1.1 114 (by decide) (by decide), tb.1, tb.2.2.1, show (41 : Int32) = iI 41 from rfl, show (-1 : Int32) = iI (-1) from rfl]
      refine S_look m2 _ 123 4 0 rfl rfl (by decide) (by decide) (mbs m t) tb.2.1 (mab m t) (ldn d) (lrt d) 41 (-1) true tb.2.2.2 ldb.1 ldb.2 (by decide) (by decide) (c1.h (by decide) hW.h) (fun m3 f3 w3 => B_X11_next_104 m3 Q _ _ _ _ _ ?_)
      have c3 : Fm [119, 123] [6, 7, 8] m m3 := c1.tr (Fm.S f3 (by decide) (by decide))
      have e119 : m3.2.1 119 = m0.2.1 119 := (f3.2.2.1 119 (by decide)).trans c2
      have := lp (N := 4) (W := fun w m4 => am_WP YL 207 0 0 107 [some (.ref 109), none, none, some (.int (iI (all : Int))), some (.int (iI (nxw gt 1000000000 (8 * t + d)).1)), some (.int (iI (nxw gt 1000000000 (8 * t + d)).2)), some (.int (iI (t : Int))), some (.int (iI (d : Int))), some (.int (iI (w : Int))), none] [] m4 Q) (fun w m4 => Fm [119, 123] [6, 7, 8] m m4 ∧ m4.2.1 119 = m0.2.1 119 ∧ ∀ j, m4.2.1 123 j = if j < w then m3.2.1 123 j &&& m0.2.1 119 j else m3.2.1 123 j) (s := m3) ⟨c3, e119, fun j => by rw [if_neg (Nat.not_lt_zero j)]⟩ ?_ ?_
      · exact this
      · rintro w m4 hw ⟨d1, d2, d3⟩ ihw
        refine B_X11_next_107 m4 Q _ _ _ _ _ _ ?_
        rw [iI_cl (a := (w : Int)) (by omega) (by omega), Int.toNat_natCast, iI_in (a := (w : Int)) (by omega) (by omega), d2, d3 w, if_neg (Nat.lt_irrefl w), iI_i1]
        refine ⟨fun y => absurd ((iI_le (a := 4) (by omega) (by omega) (by omega) (by omega)).mp y) (by omega), fun _ => ⟨by omega, by omega, by omega, ihw _ ⟨d1.pJ (by decide) _ _, by rw [am_pJ_ne (by decide)]; exact d2, fun j => ?_⟩⟩⟩
        rw [am_pJ_at, d3 j]
        by_cases c : j = w
        · rw [if_pos c, if_pos (show j < w + 1 by omega), c]
        · rw [if_neg c]
          by_cases c2 : j < w
          · rw [if_pos c2, if_pos (show j < w + 1 by omega)]
          · rw [if_neg c2, if_neg (show ¬ j < w + 1 by omega)]
      · rintro m4 ⟨d1, d2, d3⟩
        refine B_X11_next_107 m4 Q _ _ _ _ _ _ ⟨fun _ => S_msize m4 _ 123 4 0 rfl rfl (by decide) (by decide) (B_X11_next_144 m4 Q _ _ _ _ _ _ ?_), fun y => absurd (show (4 : Int32) ≤ iI ((4 : Nat) : Int) by decide) y⟩
        have w5 : ∀ q, q < 256 → wb (mv m4 123 0) q = mnp m (iI (f : Int)) (8 * t + d) q := by
          intro q hq
          have e1 := w3 q hq
          have e2 := w0 q hq
          unfold mnp
          rw [show (8 * t + d) / 8 = t by omega, show (8 * t + d) % 8 = d by omega, ← e2, ← mlk_fr c1 (by decide) (by decide), ← e1]
          unfold wb mv
          rw [d3, if_pos (by omega), zw_and]
        have eg : gt (8 * t + d) = gre (wb (mv m4 123 0)) all := by
          rw [hgt]
          exact gre_cong all (fun q hq => (w5 q hq).symm)
        have gb1 := gb (8 * t + d)
        have cl := fb_ct_le (wb (mv m4 123 0)) 256
        simp (disch := omega) only [iI_sub]
        have eif : (if iI ((fb_ct (wb (mv m4 123 0)) 256 : Nat) : Int) < iI ((all : Int) - (fb_ct (wb (mv m4 123 0)) 256 : Int)) then iI ((all : Int) - (fb_ct (wb (mv m4 123 0)) 256 : Int)) else iI ((fb_ct (wb (mv m4 123 0)) 256 : Nat) : Int)) = iI (gt (8 * t + d)) := by
          simp (disch := omega) only [iI_lt, iI_ite]
          rw [eg]
          rfl
        rw [eif, iI_lt (by omega) (by omega) (by omega) (by omega), iI_i1, show (8 : Int32) = iI 8 from rfl, iI_mul, iI_add]
        have ihd := ihd m4 ⟨d1, d2⟩
        refine ⟨fun y => ?_, fun y => ?_⟩
        · have e : nxw gt 1000000000 (8 * t + d + 1) = (((8 * t + d : Nat) : Int), gt (8 * t + d)) := if_pos y
          rw [show 8 * t + (d + 1) = 8 * t + d + 1 by omega, e] at ihd
          exact ihd
        · have e : nxw gt 1000000000 (8 * t + d + 1) = nxw gt 1000000000 (8 * t + d) := if_neg y
          rw [show 8 * t + (d + 1) = 8 * t + d + 1 by omega, e] at ihd
          exact ihd
    · rintro m2 ⟨c1, c2⟩
      refine B_X11_next_60 m2 Q _ _ _ _ _ ⟨fun _ => ?_, fun y => absurd (show (8 : Int32) ≤ iI ((8 : Nat) : Int) by decide) y⟩
      rw [iI_i1]
      exact ih m2 ⟨c1, c2⟩
  · rintro m1 ⟨g1, g2⟩
    refine B_X11_next_48 m1 Q _ _ _ _ ?_
    rw [g1.2.2.1 5 (by decide), hT.2.1]
    exact ⟨fun _ => h1 m1 g1, fun y => absurd ((iI_le (by omega) (by omega) (by omega) (by omega)).mpr (Int.le_refl _)) y⟩
