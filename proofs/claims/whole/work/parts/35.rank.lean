/-! ===== the k-th of a set ===== -/
def kth (p : Nat → Bool) (k : Int) : Nat → Int
  | 0 => -1
  | n + 1 => if kth p k n ≠ -1 then kth p k n else if p n = true ∧ (fb_ct p n : Int) = k then (n : Int) else -1
theorem kth_no {p : Nat → Bool} {k : Int} : ∀ {n : Nat}, (∀ q, q < n → p q = true → (fb_ct p q : Int) ≠ k) → kth p k n = -1
  | 0, _ => rfl
  | n + 1, h => by
    have e := kth_no (n := n) (fun q hq => h q (by omega))
    show (if kth p k n ≠ -1 then _ else _) = _
    rw [if_neg (fun z => z e), if_neg (fun z => h n (Nat.lt_succ_self n) z.1 z.2)]
theorem kth_at {p : Nat → Bool} {k : Int} {q : Nat} (hp : p q = true) (hk : (fb_ct p q : Int) = k) : ∀ {n : Nat}, q < n → kth p k n = (q : Int)
  | 0, h => absurd h (Nat.not_lt_zero q)
  | n + 1, h => by
    show (if kth p k n ≠ -1 then _ else _) = _
    by_cases e : q = n
    · subst e
      have e1 : kth p k q = -1 := kth_no (fun z hz h1 h2 => by
        have := fb_ct_kth_one h1 hp (by omega)
        omega)
      rw [if_neg (fun z => z e1), if_pos ⟨hp, hk⟩]
    · have e1 := kth_at hp hk (n := n) (by omega)
      rw [if_pos (by rw [e1]; omega), e1]
theorem kth_cong {p r : Nat → Bool} {k : Int} {n : Nat} (h : ∀ q, q < n → p q = r q) : kth p k n = kth r k n := by
  by_cases hx : ∃ q, q < n ∧ p q = true ∧ (fb_ct p q : Int) = k
  · obtain ⟨q, hq, h1, h2⟩ := hx
    rw [kth_at h1 h2 hq, kth_at (by rw [← h q hq]; exact h1) (by rw [fb_ct_cong (fun z hz => (h z (by omega)).symm)]; exact h2) hq]
  · rw [kth_no (fun q hq h1 h2 => hx ⟨q, hq, h1, h2⟩), kth_no]
    intro q hq h1 h2
    refine hx ⟨q, hq, by rw [h q hq]; exact h1, ?_⟩
    rw [fb_ct_cong (fun z hz => h z (by omega))]
    exact h2
theorem kth_neg {p : Nat → Bool} {k : Int} {n : Nat} (h : k < 0) : kth p k n = -1 := kth_no (fun q _ _ z => by omega)
theorem S_bitAtRank (m : am_M) (Q : Option Value → am_M → Prop) (x : Int64) (k : Nat) (hk : k < fb_ct (zw_b x) 64) (h : ∀ b, b < 64 → zw_b x b = true → fb_ct (zw_b x) b = k → Q (some (.int (iI (b : Int)))) m) : am_WP YL 77 0 0 0 [some (.long x), none, some (.int (iI (k : Int))), none, none] [] m Q := by
  refine B_X6_bitAtRank_0 m Q x _ ?_
  have hle := fb_ct_le (zw_b x) 64
  have := lp (N := 64) (W := fun b (_ : Unit) => am_WP YL 77 0 0 5 [some (.long x), none, none, some (.int (iI ((k - fb_ct (zw_b x) b : Nat) : Int))), some (.int (iI (b : Int)))] [] m Q) (fun b _ => fb_ct (zw_b x) b ≤ k) (s := ()) (Nat.zero_le k) ?_ ?_
  · exact this
  · intro b _ hb hI ih
    refine B_X6_bitAtRank_5 _ Q x _ _ ?_
    have e : (iI (b : Int)).toInt64 &&& 63 = (nI b).toInt64 &&& 63 := by rw [iI_nI]
    rw [e]
    simp (disch := omega) only [iI_lit, iI_ofNat, iI_neg, iI_add, iI_sub, iI_mul, iI_lt, iI_le, iI_eq, iI_in, iI_cl, lg_zi, zw_bit hb]
    have hs := fb_ct_succ (zw_b x) b
    refine ⟨fun q => by omega, fun _ => ⟨fun z => ?_, fun z => ⟨fun w => ?_, fun w => ?_⟩⟩⟩
    · rw [z] at hs
      have := ih () (by rw [hs]; exact hI)
      rw [hs] at this
      exact this
    · have z : zw_b x b = true := by cases hz : zw_b x b; exact absurd hz z; rfl
      rw [z] at hs
      have := ih () (by rw [hs]; simp; omega)
      rw [hs] at this
      have e2 : ((k - fb_ct (zw_b x) b : Nat) : Int) + -1 = ((k - (fb_ct (zw_b x) b + if true = true then 1 else 0) : Nat) : Int) := by simp; omega
      rw [e2]
      exact this
    · have z : zw_b x b = true := by cases hz : zw_b x b; exact absurd hz z; rfl
      exact h b hb z (by omega)
  · intro _ hI
    omega
theorem S_atRank (m : am_M) (Q : Option Value → am_M → Prop) (a : Nat) (ha : sw_sq m a) (k : Int) (hk1 : -2147483648 ≤ k) (hk2 : k ≤ 2147483647) (h : Q (some (.int (iI (kth (wb (m.2.1 (a + 1))) k 256)))) m) : am_WP YL 76 0 0 0 [some (.ref a), some (.int (iI k)), none, none, none] [] m Q := by
  refine B_X6_atRank_0 m Q a ha _ ?_
  have hle : ∀ n, fb_ct (wb (m.2.1 (a + 1))) n ≤ n := fb_ct_le _
  have := lp (N := 4) (W := fun w (_ : Unit) => am_WP YL 76 0 0 4 [some (.ref a), none, some (.int (iI (k - (fb_ct (wb (m.2.1 (a + 1))) (64 * w) : Int)))), some (.int (iI (w : Int))), none] [] m Q) (fun w _ => w = 0 ∨ (fb_ct (wb (m.2.1 (a + 1))) (64 * w) : Int) ≤ k) (s := ()) (Or.inl rfl) ?_ ?_
  · have e : k - (fb_ct (wb (m.2.1 (a + 1))) (64 * 0) : Int) = k := Int.sub_zero k
    rw [e] at this
    exact this
  · intro w _ hw hI ih
    have hl := hle (64 * w)
    have h0 : w = 0 → fb_ct (wb (m.2.1 (a + 1))) (64 * w) = 0 := fun e => by rw [e]; rfl
    refine B_X6_atRank_4 _ Q a ha _ _ ?_
    simp (disch := omega) only [iI_lit, iI_ofNat, iI_neg, iI_add, iI_sub, iI_mul, iI_lt, iI_le, iI_eq, iI_in, iI_cl, Int.toNat_natCast]
    refine ⟨fun q => by omega, fun _ => ⟨fun z => ?_, fun z => ⟨by omega, S_pop64 m _ _ ?_⟩⟩⟩
    · rw [kth_neg (by omega)] at h
      exact h
    · have hp := wb_pc (m.2.1 (a + 1)) w
      have hpl := zw_pc_le (m.2.1 (a + 1) w)
      refine B_X6_atRank_22 m Q a ha _ _ _ ?_
      simp (disch := omega) only [iI_lit, iI_ofNat, iI_neg, iI_add, iI_sub, iI_mul, iI_lt, iI_le, iI_eq, iI_in, iI_cl, Int.toNat_natCast]
      refine ⟨fun z2 => ?_, fun z2 => ⟨by omega, ?_⟩⟩
      · have := ih () (Or.inr (by omega))
        rw [hp, Int.natCast_add, ← Int.sub_sub] at this
        exact this
      · obtain ⟨k', hk'⟩ : ∃ k' : Nat, k - (fb_ct (wb (m.2.1 (a + 1))) (64 * w) : Int) = (k' : Int) := ⟨(k - (fb_ct (wb (m.2.1 (a + 1))) (64 * w) : Int)).toNat, by omega⟩
        rw [hk']
        refine S_bitAtRank m _ _ k' (by show k' < zw_pc _; omega) (fun b hb h1 h2 => ?_)
        refine B_X6_atRank_44 m Q _ _ ?_
        have e1 : wb (m.2.1 (a + 1)) (64 * w + b) = true := by
          unfold wb
          rw [show (64 * w + b) / 64 = w by omega, show (64 * w + b) % 64 = b by omega]
          exact h1
        have e2 : fb_ct (wb (m.2.1 (a + 1))) (64 * w + b) = fb_ct (wb (m.2.1 (a + 1))) (64 * w) + k' := by
          rw [fb_ct_split, ← h2]
          congr 1
          apply fb_ct_cong
          intro j hj
          unfold wb
          rw [show (64 * w + j) / 64 = w by omega, show (64 * w + j) % 64 = j by omega]
        rw [kth_at e1 (by rw [e2, Int.natCast_add]; omega) (by omega)] at h
        simp only [iI_add]
        exact h
  · intro _ hI
    refine B_X6_atRank_4 _ Q a ha _ _ ?_
    have hI : (fb_ct (wb (m.2.1 (a + 1))) 256 : Int) ≤ k := by
      rcases hI with z | z
      · cases z
      · exact z
    simp (disch := omega) only [iI_lit, iI_ofNat, iI_neg, iI_add, iI_sub, iI_mul, iI_lt, iI_le, iI_eq, iI_in, iI_cl]
    refine ⟨fun _ => ?_, fun q => by omega⟩
    rw [kth_no (fun q hq h1 h2 => by
      have h3 := fb_ct_mono (wb (m.2.1 (a + 1))) (show q + 1 ≤ 256 from hq)
      have h4 := fb_ct_succ (wb (m.2.1 (a + 1))) q
      rw [h1, if_pos rfl] at h4
      omega)] at h
    exact h
