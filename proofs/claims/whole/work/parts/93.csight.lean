/-! ===== the class: sight, report, remark ===== -/
def cfr (m : am_M) : Int := kth (fun i => (am_gR YL m 35 i).isNone) 0 60
theorem kth_of {p : Nat → Bool} {n : Nat} : kth p 0 n = -1 ∨ ∃ i : Nat, i < n ∧ kth p 0 n = (i : Int) ∧ p i = true := by
  by_cases h : 0 < fb_ct p n
  · obtain ⟨i, h1, h2, h3⟩ := fb_ct_kth h
    exact Or.inr ⟨i, h1, kth_at h2 (by rw [h3]; rfl) h1, h2⟩
  · exact Or.inl (kth_none0 (by omega))
theorem cfr_of (m : am_M) : cfr m = -1 ∨ ∃ i : Nat, i < 60 ∧ cfr m = (i : Int) ∧ am_gR YL m 35 i = none := by
  rcases kth_of (p := fun i => (am_gR YL m 35 i).isNone) (n := 60) with h | ⟨i, h1, h2, h3⟩
  · exact Or.inl h
  · exact Or.inr ⟨i, h1, h2, Option.isNone_iff_eq_none.mp h3⟩
/-- what the log's end needs -/
theorem S_cput (m : am_M) (Q : Option Value → am_M → Prop) (hB : BK m) (hn : 130 ≤ am_n m) (u : Int) (hu : m.1 34 3 = iI u) (tp sz : Nat) (ht : tp < 50) (hs : sz ≤ 50) (h4 : m.1 97 4 = iI (tp : Int)) (h5 : m.1 97 5 = iI (sz : Int)) (i : Nat) (hi : i < 60) (hf : am_gR YL m 35 i = none)
    (A : List Nat) (hA : ∀ a, a ∈ A → a < 133) (n34 : 34 ∉ A) (n35 : 35 ∉ A) (n97 : 97 ∉ A) (m2 : am_M) (g : Gr A m m2) (e : Nat) (he : EnOK m2 e)
    (h1 : ∀ m3, Kept (am_pR (am_pI m2 34 3 (iI (u + 1))) 35 i (some e)) m3 tp sz 0 (iI (i : Int)) (-1) none → Q none m3) :
    am_WP YL 154 0 0 0 [some (.ref 3), some (.int (iI (i : Int))), some (.ref e)] [] m2 Q :=
  S_enter m2 Q (hB.gr g hn hA n35) u (by rw [g.I (by omega) n34]; exact hu) tp sz ht hs (by rw [g.I (by omega) n97]; exact h4) (by rw [g.I (by omega) n97]; exact h5) i hi (by rw [g.R (by omega) n35]; exact hf) e he.1 h1
theorem S_cremark (m : am_M) (Q : Option Value → am_M → Prop) (hB : BK m) (hn : 130 ≤ am_n m) (u : Int) (hu : m.1 34 3 = iI u) (tp sz : Nat) (ht : tp < 50) (hs : sz ≤ 50) (h4 : m.1 97 4 = iI (tp : Int)) (h5 : m.1 97 5 = iI (sz : Int)) (v : Int32)
    (h0 : cfr m = -1 → Q (some (.int (-1))) m)
    (h1 : ∀ i : Nat, i < 60 → cfr m = (i : Int) → am_gR YL m 35 i = none → ∀ m2 m3 e, Gr [] m m2 → am_n m2 = am_n m + 1 → e = am_n m + 3 → EnOK m2 e → Ent m2 e 5 v (-1) (-1) none → Kept (am_pR (am_pI m2 34 3 (iI (u + 1))) 35 i (some e)) m3 tp sz 0 (iI (i : Int)) (-1) none → Q (some (.int (iI (i : Int)))) m3) :
    am_WP YL 121 1 5 0 [some (.ref 3), some (.int v), none] [] m Q := by
  refine N_X10_remark_0 m Q _ (S_firstFree m _ hB ?_)
  have ec : kth (fun i => (am_gR YL m 35 i).isNone) 0 60 = cfr m := rfl
  rw [ec]
  refine N_X10_remark_7 m Q hn _ _ ?_
  rcases cfr_of m with z | ⟨i, hi, z, hf⟩
  · rw [z]
    exact ⟨fun w => absurd rfl w, fun _ => h0 z⟩
  · rw [z]
    refine ⟨fun _ => S_newEnN m _ hn _ _ _ _ (fun m2 g2 n2 e2 t2 => N_X10_remark_29r m2 Q _ _ _ e2.1 ?_), fun w => absurd ((iI_eq (b := -1) (by omega) (by omega) (by omega) (by omega)).mp w) (by omega)⟩
    exact S_cput m _ hB hn u hu tp sz ht hs h4 h5 i hi hf [] (fun a ha => absurd ha List.not_mem_nil) List.not_mem_nil List.not_mem_nil List.not_mem_nil m2 g2 _ e2 (fun m3 k3 => N_X10_remark_32 m3 Q _ (h1 i hi z hf m2 m3 _ g2 n2 rfl e2 t2 k3))
theorem lok_b {mi dn rt sd : Int} (h : lok mi dn rt sd = true) : dn.natAbs ≤ 50 ∧ rt.natAbs ≤ 50 ∧ sd.natAbs ≤ 400 := by
  obtain ⟨y1, y⟩ := Bool.and_eq_true_iff.mp h
  obtain ⟨y2, y⟩ := Bool.and_eq_true_iff.mp y
  obtain ⟨y3, y⟩ := Bool.and_eq_true_iff.mp y
  obtain ⟨y4, y5⟩ := Bool.and_eq_true_iff.mp y
  have y2 := of_decide_eq_true y2
  have y3 := of_decide_eq_true y3
  have y5 := of_decide_eq_true y5
  omega
theorem fcone_fr {m m1 : am_M} (h8 : m1.2.1 8 = m.2.1 8) (f : Nat) (dn rt sd rc : Int) (q : Nat) : fcone m1 f dn rt sd rc q = fcone m f dn rt sd rc q := by
  unfold fcone
  rw [h8]
theorem S_creport (m : am_M) (Q : Option Value → am_M → Prop) (hB : BK m) (hn : 130 ≤ am_n m) (u : Int) (hu : m.1 34 3 = iI u) (tp sz : Nat) (ht : tp < 50) (hs : sz ≤ 50) (h4 : m.1 97 4 = iI (tp : Int)) (h5 : m.1 97 5 = iI (sz : Int)) (r c mi dn rt sd : Int) (hbr : -2147483648 ≤ r ∧ r ≤ 2147483647) (hbc : -2147483648 ≤ c ∧ c ≤ 2147483647) (hbmi : -2147483648 ≤ mi ∧ mi ≤ 2147483647) (hbdn : -2147483648 ≤ dn ∧ dn ≤ 2147483647) (hbrt : -2147483648 ≤ rt ∧ rt ≤ 2147483647) (hbsd : -2147483648 ≤ sd ∧ sd ≤ 2147483647)
    (h0 : (cth m r c && lok mi dn rt sd) = false ∨ cfr m = -1 → Q (some (.int (-1))) m)
    (h1 : (cth m r c && lok mi dn rt sd) = true → ∀ i : Nat, i < 60 → cfr m = (i : Int) → am_gR YL m 35 i = none → ∀ m2 m3 e s, Gr [] m m2 → am_n m2 = am_n m + 3 → am_n m + 3 ≤ e → EnOK m2 e → Ent m2 e 4 (iI mi) (-1) (-1) (some s) → (∀ q, q < 256 → wb (m2.2.1 (s + 1)) q = fcone m (16 * r + c).toNat dn rt sd (-1) q) → Kept (am_pR (am_pI m2 34 3 (iI (u + 1))) 35 i (some e)) m3 tp sz 0 (iI (i : Int)) (-1) none → Q (some (.int (iI (i : Int)))) m3) :
    am_WP YL 120 3 10 0 [some (.ref 3), some (.int (iI r)), some (.int (iI c)), some (.int (iI mi)), some (.int (iI dn)), some (.int (iI rt)), some (.int (iI sd)), none, none, none] [] m Q := by
  refine N_X10_report_0 m Q _ _ _ _ _ _ (S_numberOf m _ r c (by omega) (by omega) (by omega) (by omega) (N_X10_report_9 m Q _ _ _ _ _ (S_firstFree m _ hB ?_)))
  have ec : kth (fun i => (am_gR YL m 35 i).isNone) 0 60 = cfr m := rfl
  rw [ec]
  refine N_X10_report_18 m Q _ _ _ _ _ _ ?_
  cases z : cth m r c with
  | false => exact ⟨fun _ => h0 (Or.inl (by rw [z, Bool.false_and])), fun w => absurd rfl w⟩
  | true =>
    obtain ⟨b1, b2, b3, b4⟩ := num_of.2 z
    rw [z] at b1
    rw [b1]
    refine ⟨fun w => absurd w b3, fun _ => ?_⟩
    rcases cfr_of m with y | ⟨i, hi, y, hf⟩
    · rw [y]
      exact ⟨fun _ => h0 (Or.inr y), fun w => absurd rfl w⟩
    · rw [y]
      refine ⟨fun w => absurd ((iI_eq (b := -1) (by omega) (by omega) (by omega) (by omega)).mp w) (by omega), fun _ => S_isAimed m _ mi dn rt sd hbmi hbdn hbrt hbsd (N_X10_report_42 m Q hn _ _ _ _ _ _ _ (bz' (fun x => h0 (Or.inl (by rw [x, Bool.and_false]))) (fun x => ?_)))⟩
      obtain ⟨l1, l2, l3⟩ := lok_b x
      refine S_newSq m _ hn (fun m2 g2 n2 s2 => N_X10_report_54r m2 Q _ _ _ _ _ _ _ s2 ?_)
      refine S_fillCone m2 _ _ s2 (by omega) _ b2 dn rt sd (-1) l1 l2 l3 (by decide) (fun m3 f3 w3 => ?_)
      have g3 : Gr [] m m3 := g2.far (Ar.ag f3 (fun _ z => z)) (fun a ha => Or.inr (by rw [List.mem_singleton.mp ha]; omega))
      have n3 : am_n m3 = am_n m + 2 := by rw [(Ar.ag f3 (fun _ z => z) : Ar [am_n m + 3 + 1] m2 m3).n, n2]
      have s3 : sw_sq m3 (am_n m + 3) := f3.sq s2
      refine N_X10_report_74 m3 Q (by omega) _ _ _ s3 (S_newEn m3 _ (by omega) _ _ _ _ _ ⟨s3, by omega, by omega⟩ (fun m4 g4 n4 e4 t4 => N_X10_report_90r m4 Q _ _ _ e4.1 ?_))
      refine S_cput m _ hB hn u hu tp sz ht hs h4 h5 i hi hf [] (fun a ha => absurd ha List.not_mem_nil) List.not_mem_nil List.not_mem_nil List.not_mem_nil m4 (g3.tr g4) _ e4 (fun m5 k5 => N_X10_report_93 m5 Q _ (h1 (by rw [z, x]; rfl) i hi y hf m4 m5 _ _ (g3.tr g4) (by omega) (by omega) e4 t4 (fun q hq => ?_) k5))
      rw [g4.J (by omega) List.not_mem_nil, w3 q hq]
      exact fcone_fr (g2.J (by omega) List.not_mem_nil) _ _ _ _ _ _
def csok (m : am_M) (n : Nat) (kd tw mi dn rt sd rc b : Int) : Bool := inR kd 0 3 && (inR tw 0 ((n : Int) - 1) && (lok mi dn rt sd && rtok kd rc b))
theorem S_csight (m : am_M) (Q : Option Value → am_M → Prop) (hB : BK m) (hW : WO m) (hn : 130 ≤ am_n m) (n : Nat) (hT : tw_ok m n) (hK : tk_ok m n) (u : Int) (hu : m.1 34 3 = iI u) (tp sz : Nat) (ht : tp < 50) (hs : sz ≤ 50) (h4 : m.1 97 4 = iI (tp : Int)) (h5 : m.1 97 5 = iI (sz : Int)) (kd tw mi dn rt sd rc b : Int) (hbkd : -2147483648 ≤ kd ∧ kd ≤ 2147483647) (hbtw : -2147483648 ≤ tw ∧ tw ≤ 2147483647) (hbmi : -2147483648 ≤ mi ∧ mi ≤ 2147483647) (hbdn : -2147483648 ≤ dn ∧ dn ≤ 2147483647) (hbrt : -2147483648 ≤ rt ∧ rt ≤ 2147483647) (hbsd : -2147483648 ≤ sd ∧ sd ≤ 2147483647) (hbrc : -2147483648 ≤ rc ∧ rc ≤ 2147483647) (hbb : -2147483648 ≤ b ∧ b ≤ 2147483647)
    (h0 : csok m n kd tw mi dn rt sd rc b = false ∨ cfr m = -1 → Q (some (.int (-1))) m)
    (h1 : csok m n kd tw mi dn rt sd rc b = true → ∀ i : Nat, i < 60 → cfr m = (i : Int) → am_gR YL m 35 i = none → ∀ m2 m3 e s, Gr [12, 19 + 2 * tw.toNat] m m2 → tk_ok m2 n → am_n m2 = am_n m + 3 → am_n m + 3 ≤ e → EnOK m2 e → Ent m2 e (iI kd) (iI mi) (iI tw) (iI (mrc kd rc b)) (some s) → (∀ q, q < 256 → wb (m2.2.1 (s + 1)) q = (fcone m (bse m tw.toNat) dn rt sd (mrc kd rc b) q && (decide (kd = 3) || tsee m tw.toNat q))) → Kept (am_pR (am_pI m2 34 3 (iI (u + 1))) 35 i (some e)) m3 tp sz 0 (iI (i : Int)) (-1) none → Q (some (.int (iI (i : Int)))) m3) :
    am_WP YL 119 3 10 0 [some (.ref 3), some (.int (iI kd)), some (.int (iI tw)), some (.int (iI mi)), some (.int (iI dn)), some (.int (iI rt)), some (.int (iI sd)), some (.int (iI rc)), some (.int (iI b)), none, none, none] [] m Q := by
  have hn8 := hT.1
  have e1 : iI kd < (0 : Int32) ↔ kd < 0 := iI_lt (b := 0) (by omega) (by omega) (by omega) (by omega)
  have e2 : (3 : Int32) < iI kd ↔ 3 < kd := iI_lt (a := 3) (by omega) (by omega) (by omega) (by omega)
  have e3 : iI kd = (3 : Int32) ↔ kd = 3 := iI_eq (b := 3) (by omega) (by omega) (by omega) (by omega)
  have nok : ¬ (0 ≤ kd ∧ kd ≤ 3) → Q (some (.int (-1))) m := fun z => h0 (Or.inl (by unfold csok; rw [show inR kd 0 3 = false from decide_eq_false z, Bool.false_and]))
  refine N_X10_sight_0 m Q _ _ _ _ _ _ _ _ ?_
  rw [e1, e2]
  refine ⟨fun z => nok (by omega), fun z => ⟨fun y => nok (by omega), fun y => S_tIsOne m _ tw hbtw (N_X10_sight_17 m Q _ _ _ _ _ _ _ _ _ ?_)⟩⟩
  have k1 : inR kd 0 3 = true := decide_eq_true (by omega)
  rw [cto_n hT]
  refine bz' (fun x => h0 (Or.inl (by unfold csok; rw [x, Bool.false_and, Bool.and_false]))) (fun k2 => S_isAimed m _ mi dn rt sd hbmi hbdn hbrt hbsd (N_X10_sight_32 m Q _ _ _ _ _ _ _ _ _ (bz (fun x => h0 (Or.inl (by unfold csok; rw [x, Bool.false_and, Bool.and_false, Bool.and_false]))) (fun k3 => S_hasReach m _ kd rc b hbkd hbrc hbb (N_X10_sight_43 m Q _ _ _ _ _ _ _ _ _ (bz' (fun x => h0 (Or.inl (by unfold csok; rw [x, Bool.and_false, Bool.and_false, Bool.and_false]))) (fun k4 => S_firstFree m _ hB ?_)))))))
  have ok : csok m n kd tw mi dn rt sd rc b = true := by unfold csok; rw [k1, k2, k3, k4]; rfl
  have ec : kth (fun i => (am_gR YL m 35 i).isNone) 0 60 = cfr m := rfl
  rw [ec]
  refine N_X10_sight_55 m Q _ _ _ _ _ _ _ _ _ ?_
  rcases cfr_of m with w | ⟨i, hi, w, hf⟩
  · rw [w]
    exact ⟨fun x => absurd rfl x, fun _ => h0 (Or.inr w)⟩
  rw [w]
  refine ⟨fun _ => S_reachLeft m _ kd rc b hbkd hbrc hbb k4 (N_X10_sight_73 m Q hn _ _ _ _ _ _ _ _ ?_), fun x => absurd ((iI_eq (b := -1) (by omega) (by omega) (by omega) (by omega)).mp x) (by omega)⟩
  obtain ⟨l1, l2, l3⟩ := lok_b k3
  have rb : -1 ≤ mrc kd rc b ∧ mrc kd rc b ≤ 40 := by
    obtain ⟨a, c⟩ := Bool.and_eq_true_iff.mp k4
    exact mrc_b a c
  have t2 := of_decide_eq_true k2
  obtain ⟨t, htw⟩ : ∃ t : Nat, tw = (t : Int) := ⟨tw.toNat, by omega⟩
  subst htw
  rw [Int.toNat_natCast] at h1
  have htn : t < n := by omega
  have tb := tw_b hT htn
  refine S_newSq m _ hn (fun m2 g2 n2 s2 => N_X10_sight_82r m2 Q _ _ _ _ _ _ _ _ _ s2 ?_)
  have i2 : ∀ a, a < 133 → m2.1 a = m.1 a := fun a ha => g2.I (by omega) List.not_mem_nil
  have j2 : ∀ a, a < 133 → m2.2.1 a = m.2.1 a := fun a ha => g2.J (by omega) List.not_mem_nil
  have c2 : cto m2 (t : Int) = true := by
    unfold cto
    rw [i2 9 (by decide)]
    exact tw_1 hT htn
  refine S_base m2 _ t c2 (N_X10_sight_98 m2 Q _ _ _ _ _ _ _ _ _ s2 _ s2 _ ?_)
  rw [i2 10 (by decide), tb.1]
  refine S_fillCone m2 _ _ s2 (by omega) _ tb.2.1 dn rt sd (mrc kd rc b) l1 l2 l3 (by omega) (fun m3 f3 w3 => ?_)
  have ar3 : Ar [am_n m + 3 + 1] m2 m3 := Ar.ag f3 (fun _ z => z)
  have g3 : Gr [] m m3 := g2.far ar3 (fun a ha => Or.inr (by rw [List.mem_singleton.mp ha]; omega))
  have n3 : am_n m3 = am_n m + 2 := by rw [ar3.n, n2]
  have s3 : sw_sq m3 (am_n m + 3) := f3.sq s2
  have i3 : ∀ a, a < 133 → m3.1 a = m.1 a := fun a ha => g3.I (by omega) List.not_mem_nil
  have j3 : ∀ a, a < 133 → m3.2.1 a = m.2.1 a := fun a ha => g3.J (by omega) List.not_mem_nil
  have fc : ∀ q, q < 256 → wb (m3.2.1 (am_n m + 3 + 1)) q = fcone m (bse m t) dn rt sd (mrc kd rc b) q := fun q hq => by
    rw [w3 q hq]
    exact fcone_fr (j2 8 (by decide)) _ _ _ _ _ _
  have ts3 : ∀ q, tsee m3 t q = tsee m t q := fun q => tsee_fr (j3 8 (by decide)) (i3 5 (by decide)) (i3 10 (by decide)) (i3 11 (by decide)) t q
  have hK3 : tk_ok m3 n := fun t' ht' hz q hq => by
    rw [i3 12 (by decide)] at hz
    rw [j3 _ (by omega), hK t' ht' hz q hq]
    exact (tsee_fr (j3 8 (by decide)) (i3 5 (by decide)) (i3 10 (by decide)) (i3 11 (by decide)) t' q).symm
  have hA : ∀ a, a ∈ [12, 19 + 2 * t] → a < 133 := fun a ha => by simp only [List.mem_cons, List.not_mem_nil, or_false] at ha; omega
  have nA : ∀ a, a ≠ 12 → (a < 19 ∨ 33 < a) → a ∉ [12, 19 + 2 * t] := fun a h1 h2 ha => by simp only [List.mem_cons, List.not_mem_nil, or_false] at ha; omega
  -- the end
  have fin : ∀ mx, Gr [12, 19 + 2 * t] m mx → am_n mx = am_n m + 2 → sw_sq mx (am_n m + 3) → tk_ok mx n → (∀ q, q < 256 → wb (mx.2.1 (am_n m + 3 + 1)) q = (fcone m (bse m t) dn rt sd (mrc kd rc b) q && (decide (kd = 3) || tsee m t q))) → am_WP YL 119 1 5 127 [some (.ref 3), some (.int (iI kd)), some (.int (iI (t : Int))), some (.int (iI mi)), none, none, none, none, none, some (.int (iI (i : Int))), some (.int (iI (mrc kd rc b))), some (.ref (am_n m + 3))] [] mx Q := by
    intro mx gx nx sx kx wx
    refine N_X10_sight_127 mx Q (by omega) _ _ _ _ _ _ sx (S_newEn mx _ (by omega) _ _ _ _ _ ⟨sx, by omega, by omega⟩ (fun m4 g4 n4 e4 t4 => N_X10_sight_144r m4 Q _ _ _ e4.1 ?_))
    have gg : Gr [12, 19 + 2 * t] m m4 := gx.tr (g4.sub (fun a ha => absurd ha List.not_mem_nil))
    have k4' : tk_ok m4 n := fun t' ht' hz q hq => by
      rw [g4.I (by omega) List.not_mem_nil] at hz
      rw [g4.J (by omega) List.not_mem_nil, kx t' ht' hz q hq]
      exact (tsee_fr (g4.J (by omega) List.not_mem_nil) (g4.I (by omega) List.not_mem_nil) (g4.I (by omega) List.not_mem_nil) (g4.I (by omega) List.not_mem_nil) t' q).symm
    refine S_cput m _ hB hn u hu tp sz ht hs h4 h5 i hi hf [12, 19 + 2 * t] hA (nA 34 (by decide) (by decide)) (nA 35 (by decide) (by decide)) (nA 97 (by decide) (by decide)) m4 gg _ e4 (fun m5 k5 => N_X10_sight_147 m5 Q _ (h1 ok i hi w hf m4 m5 _ _ gg k4' (by omega) (by omega) e4 t4 (fun q hq => ?_) k5))
    rw [g4.J (by omega) List.not_mem_nil]
    exact wx q hq
  refine N_X10_sight_109 m3 Q _ _ _ _ _ _ s3 ?_
  rw [e3]
  refine ⟨fun x => ?_, fun x => ?_⟩
  · refine fin m3 (g3.sub (fun a ha => absurd ha List.not_mem_nil)) n3 s3 hK3 (fun q hq => ?_)
    rw [fc q hq, decide_eq_true x, Bool.true_or, Bool.and_true]
  · have hT3 : tw_ok m3 n := by
      refine ⟨hn8, by rw [i3 9 (by decide)]; exact hT.2.1, fun t' ht' => ?_⟩
      rw [i3 10 (by decide), i3 11 (by decide)]
      exact hT.2.2 t' ht'
    refine S_seenBy m3 _ n t htn hT3 hK3 (fun k hk => by rw [i3 5 (by decide)]; have := hW.1 k hk; omega) (fun m4 f4 k4' w4 => ?_)
    have ar4 : Ar [12, 19 + 2 * t] m3 m4 := Ar.ag f4 (fun _ z => z)
    have s4 : sw_sq m4 (am_n m + 3) := f4.sq s3
    have sq18 : sw_sq m4 (18 + 2 * t) := by
      have : ∀ t, t < 8 → ∀ m4 : am_M, sw_sq m4 (18 + 2 * t) := by
        intro t ht m4
        match t, ht with
        | 0, _ => exact ⟨rfl, rfl, rfl, rfl⟩
        | 1, _ => exact ⟨rfl, rfl, rfl, rfl⟩
        | 2, _ => exact ⟨rfl, rfl, rfl, rfl⟩
        | 3, _ => exact ⟨rfl, rfl, rfl, rfl⟩
        | 4, _ => exact ⟨rfl, rfl, rfl, rfl⟩
        | 5, _ => exact ⟨rfl, rfl, rfl, rfl⟩
        | 6, _ => exact ⟨rfl, rfl, rfl, rfl⟩
        | 7, _ => exact ⟨rfl, rfl, rfl, rfl⟩
      exact this t (by omega) m4
    refine N_X10_sight_124r m4 Q _ _ _ _ _ _ s4 _ s4 _ sq18 (S_keepOnly m4 _ _ _ s4 sq18 (by omega) (fin _ ?_ ?_ ?_ ?_ (fun q hq => ?_)))
    · refine ((g3.sub (fun a ha => absurd ha List.not_mem_nil)).tr (Gr.ar ar4)).far (Ar.ag ((Ag.rf [am_n m + 3 + 1] m4).wJ (a := am_n m + 3 + 1) (List.mem_singleton.mpr rfl) _) (fun _ z => z)) (fun a ha => Or.inr (by rw [List.mem_singleton.mp ha]; omega))
    · show am_n m4 = _
      rw [ar4.n, n3]
    · exact s4
    · intro t' ht' hz q hq
      have := k4' t' ht' hz q hq
      rw [am_wJ_ne (by omega)]
      rw [this]
      exact (tsee_fr (am_wJ_ne (by omega)) rfl rfl rfl t' q).symm
    · rw [am_wJ_at, wb_fx hq, wb_and', f4.J (fun z => by have := hA _ z; omega), fc q hq, show 18 + 2 * t + 1 = 19 + 2 * t by omega, w4 q hq, ts3, decide_eq_false x, Bool.false_or]
