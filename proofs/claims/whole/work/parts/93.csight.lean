/-! ===== the class: sight, report, remark ===== -/
def cfr (m : am_M) : Int := kth (fun i => (am_gR YL m 35 i).isNone) 0 60
theorem kth_of {p : Nat → Bool} {n : Nat} : kth p 0 n = -1 ∨ ∃ i : Nat, i < n ∧ kth p 0 n = (i : Int) ∧ p i = true := by
  by_cases h : 0 < fb_ct p n
  · obtain ⟨i, h1, h2, h3⟩ := fb_ct_kth h
    exact Or.inr ⟨i, h1, kth_at h2 (by rw [h3]; rfl) h1, h2⟩
  · exact Or.inl (kth_none0 (by omega))
theorem cfr_of (m : am_M) : cfr m = -1 ∨ ∃ i : Nat, i < 60 ∧ cfr m = (i : Int) ∧ am_gR YL m 35 i = none := by
  rcases kth_of (p := fun i => (am_gR YL m 35 i).isNone) (n := 60) with h | ⟨i, h1, h2, h3⟩
  · exact Or.inl h
  · exact Or.inr ⟨i, h1, h2, Option.isNone_iff_eq_none.mp h3⟩
/-- what the log's end needs -/
theorem S_cput (m : am_M) (Q : Option Value → am_M → Prop) (hB : BK m) (hn : 130 ≤ am_n m) (u : Int) (hu : m.1 34 3 = iI u) (tp sz : Nat) (ht : tp < 50) (hs : sz ≤ 50) (h4 : m.1 97 4 = iI (tp : Int)) (h5 : m.1 97 5 = iI (sz : Int)) (i : Nat) (hi : i < 60) (hf : am_gR YL m 35 i = none)
    (A : List Nat) (hA : ∀ a, a ∈ A → a < 133) (n34 : 34 ∉ A) (n35 : 35 ∉ A) (n97 : 97 ∉ A) (m2 : am_M) (g : Gr A m m2) (e : Nat) (he : EnOK m2 e)
    (h1 : ∀ m3, Kept (am_pR (am_pI m2 34 3 (iI (u + 1))) 35 i (some e)) m3 tp sz 0 (iI (i : Int)) (-1) none → Q none m3) :
    am_WP YL 154 0 0 0 [some (.ref 3), some (.int (iI (i : Int))), some (.ref e)] [] m2 Q :=
  S_enter m2 Q (hB.gr g hn hA n35) u (by rw [g.I (by omega) n34]; exact hu) tp sz ht hs (by rw [g.I (by omega) n97]; exact h4) (by rw [g.I (by omega) n97]; exact h5) i hi (by rw [g.R (by omega) n35]; exact hf) e he.1 h1
theorem S_cremark (m : am_M) (Q : Option Value → am_M → Prop) (hB : BK m) (hn : 130 ≤ am_n m) (u : Int) (hu : m.1 34 3 = iI u) (tp sz : Nat) (ht : tp < 50) (hs : sz ≤ 50) (h4 : m.1 97 4 = iI (tp : Int)) (h5 : m.1 97 5 = iI (sz : Int)) (v : Int32)
    (h0 : cfr m = -1 → Q (some (.int (-1))) m)
    (h1 : ∀ i : Nat, i < 60 → cfr m = (i : Int) → am_gR YL m 35 i = none → ∀ m2 m3 e, Gr [] m m2 → am_n m2 = am_n m + 1 → e = am_n m + 3 → EnOK m2 e → Ent m2 e 5 v (-1) (-1) none → Kept (am_pR (am_pI m2 34 3 (iI (u + 1))) 35 i (some e)) m3 tp sz 0 (iI (i : Int)) (-1) none → Q (some (.int (iI (i : Int)))) m3) :
    am_WP YL 121 1 5 0 [some (.ref 3), some (.int v), none] [] m Q := by
  refine N_X10_remark_0 m Q _ (S_firstFree m _ hB ?_)
  have ec : kth (fun i => (am_gR YL m 35 i).isNone) 0 60 = cfr m := rfl
  rw [ec]
  refine N_X10_remark_7 m Q hn _ _ ?_
  rcases cfr_of m with z | ⟨i, hi, z, hf⟩
  · rw [z]
    exact ⟨fun w => absurd rfl w, fun _ => h0 z⟩
  · rw [z]
    refine ⟨fun _ => S_newEnN m _ hn _ _ _ _ (fun m2 g2 n2 e2 t2 => N_X10_remark_29r m2 Q _ _ _ e2.1 ?_), fun w => absurd ((iI_eq (b := -1) (by omega) (by omega) (by omega) (by omega)).mp w) (by omega)⟩
    exact S_cput m _ hB hn u hu tp sz ht hs h4 h5 i hi hf [] (fun a ha => absurd ha List.not_mem_nil) List.not_mem_nil List.not_mem_nil List.not_mem_nil m2 g2 _ e2 (fun m3 k3 => N_X10_remark_32 m3 Q _ (h1 i hi z hf m2 m3 _ g2 n2 rfl e2 t2 k3))
theorem lok_b {mi dn rt sd : Int} (h : lok mi dn rt sd = true) : dn.natAbs ≤ 50 ∧ rt.natAbs ≤ 50 ∧ sd.natAbs ≤ 400 := by
  obtain ⟨y1, y⟩ := Bool.and_eq_true_iff.mp h
  obtain ⟨y2, y⟩ := Bool.and_eq_true_iff.mp y
  obtain ⟨y3, y⟩ := Bool.and_eq_true_iff.mp y
  obtain ⟨y4, y5⟩ := Bool.and_eq_true_iff.mp y
  have y2 := of_decide_eq_true y2
  have y3 := of_decide_eq_true y3
  have y5 := of_decide_eq_true y5
  omega
theorem fcone_fr {m m1 : am_M} (h8 : m1.2.1 8 = m.2.1 8) (f : Nat) (dn rt sd rc : Int) (q : Nat) : fcone m1 f dn rt sd rc q = fcone m f dn rt sd rc q := by
  unfold fcone
  rw [h8]
theorem S_creport (m : am_M) (Q : Option Value → am_M → Prop) (hB : BK m) (hn : 130 ≤ am_n m) (u : Int) (hu : m.1 34 3 = iI u) (tp sz : Nat) (ht : tp < 50) (hs : sz ≤ 50) (h4 : m.1 97 4 = iI (tp : Int)) (h5 : m.1 97 5 = iI (sz : Int)) (r c mi dn rt sd : Int) (hbr : -2147483648 ≤ r ∧ r ≤ 2147483647) (hbc : -2147483648 ≤ c ∧ c ≤ 2147483647) (hbmi : -2147483648 ≤ mi ∧ mi ≤ 2147483647) (hbdn : -2147483648 ≤ dn ∧ dn ≤ 2147483647) (hbrt : -2147483648 ≤ rt ∧ rt ≤ 2147483647) (hbsd : -2147483648 ≤ sd ∧ sd ≤ 2147483647)
    (h0 : (cth m r c && lok mi dn rt sd) = false ∨ cfr m = -1 → Q (some (.int (-1))) m)
    (h1 : (cth m r c && lok mi dn rt sd) = true → ∀ i : Nat, i < 60 → cfr m = (i : Int) → am_gR YL m 35 i = none → ∀ m2 m3 e s, Gr [] m m2 → am_n m2 = am_n m + 3 → am_n m + 3 ≤ e → EnOK m2 e → Ent m2 e 4 (iI mi) (-1) (-1) (some s) → (∀ q, q < 256 → wb (m2.2.1 (s + 1)) q = fcone m (16 * r + c).toNat dn rt sd (-1) q) → Kept (am_pR (am_pI m2 34 3 (iI (u + 1))) 35 i (some e)) m3 tp sz 0 (iI (i : Int)) (-1) none → Q (some (.int (iI (i : Int)))) m3) :
    am_WP YL 120 3 10 0 [some (.ref 3), some (.int (iI r)), some (.int (iI c)), some (.int (iI mi)), some (.int (iI dn)), some (.int (iI rt)), some (.int (iI sd)), none, none, none] [] m Q := by
  refine N_X10_report_0 m Q _ _ _ _ _ _ (S_numberOf m _ r c (by omega) (by omega) (by omega) (by omega) (N_X10_report_9 m Q _ _ _ _ _ (S_firstFree m _ hB ?_)))
  have ec : kth (fun i => (am_gR YL m 35 i).isNone) 0 60 = cfr m := rfl
  rw [ec]
  refine N_X10_report_18 m Q _ _ _ _ _ _ ?_
  cases z : cth m r c with
  | false => exact ⟨fun _ => h0 (Or.inl (by rw [z, Bool.false_and])), fun w => absurd rfl w⟩
  | true =>
    obtain ⟨b1, b2, b3, b4⟩ := num_of.2 z
    rw [z] at b1
    rw [b1]
    refine ⟨fun w => absurd w b3, fun _ => ?_⟩
    rcases cfr_of m with y | ⟨i, hi, y, hf⟩
    · rw [y]
      exact ⟨fun _ => h0 (Or.inr y), fun w => absurd rfl w⟩
    · rw [y]
      refine ⟨fun w => absurd ((iI_eq (b := -1) (by omega) (by omega) (by omega) (by omega)).mp w) (by omega), fun _ => S_isAimed m _ mi dn rt sd hbmi hbdn hbrt hbsd (N_X10_report_42 m Q hn _ _ _ _ _ _ _ (bz' (fun x => h0 (Or.inl (by rw [x, Bool.and_false]))) (fun x => ?_)))⟩
      obtain ⟨l1, l2, l3⟩ := lok_b x
      refine S_newSq m _ hn (fun m2 g2 n2 s2 => N_X10_report_54r m2 Q _ _ _ _ _ _ _ s2 ?_)
      refine S_fillCone m2 _ _ s2 (by omega) _ b2 dn rt sd (-1) l1 l2 l3 (by decide) (fun m3 f3 w3 => ?_)
      have g3 : Gr [] m m3 := g2.far (Ar.ag f3 (fun _ z => z)) (fun a ha => Or.inr (by rw [List.mem_singleton.mp ha]; omega))
      have n3 : am_n m3 = am_n m + 2 := by rw [(Ar.ag f3 (fun _ z => z) : Ar [am_n m + 3 + 1] m2 m3).n, n2]
      have s3 : sw_sq m3 (am_n m + 3) := f3.sq s2
      refine N_X10_report_74 m3 Q (by omega) _ _ _ s3 (S_newEn m3 _ (by omega) _ _ _ _ _ ⟨s3, by omega, by omega⟩ (fun m4 g4 n4 e4 t4 => N_X10_report_90r m4 Q _ _ _ e4.1 ?_))
      refine S_cput m _ hB hn u hu tp sz ht hs h4 h5 i hi hf [] (fun a ha => absurd ha List.not_mem_nil) List.not_mem_nil List.not_mem_nil List.not_mem_nil m4 (g3.tr g4) _ e4 (fun m5 k5 => N_X10_report_93 m5 Q _ (h1 (by rw [z, x]; rfl) i hi y hf m4 m5 _ _ (g3.tr g4) (by omega) (by omega) e4 t4 (fun q hq => ?_) k5))
      rw [g4.J (by omega) List.not_mem_nil, w3 q hq]
      exact fcone_fr (g2.J (by omega) List.not_mem_nil) _ _ _ _ _ _
