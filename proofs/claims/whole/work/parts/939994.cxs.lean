/-! ===== the run is sound ===== -/
section CXS
variable {ih : cx_F} {mi st pc l : Nat} {L : am_L} {S : List Value} {c : am_M} {q : cx_T} {m : am_M} {Q : Option Value → am_M → Prop} {k0 s0 : Nat}
theorem cx_st {i : Instr} (hc : am_code mi pc = some (i, l)) (h : am_st am_Y0 mi (q.2.2.2.2.1 + k0) (q.2.2.2.2.2 + s0) pc L S m (am_kW am_Y0 mi Q) (am_cW am_Y0) Q i l) : am_WP am_Y0 mi (q.2.2.2.2.1 + k0) (q.2.2.2.2.2 + s0) pc L S m Q := by
  refine am_so ?_
  unfold am_step
  rw [hc]
  exact h
theorem cx_1 (hi : cx_P ih) (hR : cx_R c m) (hq : ∀ m', cx_R q.2.2.1 m' → cx_L m m' → am_WP am_Y0 mi k0 s0 q.2.2.2.1 q.1 q.2.1 m' Q) {i : Instr} (hc : am_code mi pc = some (i, l)) (h : cx_s ih mi st pc L S c i l = some q) : am_WP am_Y0 mi (q.2.2.2.2.1 + k0) (q.2.2.2.2.2 + s0) pc L S m Q := by
  unfold cx_s at h
  split at h
  · cases h
    show am_WP am_Y0 mi (0 + k0) (0 + s0) pc L S m Q
    rw [Nat.zero_add, Nat.zero_add]
    exact hq m hR (cx_L.rf m)
  · obtain ⟨h1, h⟩ := cx_ge h
    obtain ⟨a, h2, h⟩ := cx_be h
    refine cx_st hc ?_
    show am_g (Nat.beq l 1) (am_oV (am_ge L _) _)
    rw [h1, cx_re h2]
    exact hi _ _ _ _ _ _ _ h m hR Q k0 s0 hq
  · obtain ⟨h1, h⟩ := cx_ge h
    obtain ⟨a, h2, h⟩ := cx_be h
    refine cx_st hc ?_
    show am_g (Nat.beq l 1) (am_iV (am_ge L _) _)
    rw [h1, cx_ie h2]
    exact hi _ _ _ _ _ _ _ h m hR Q k0 s0 hq
  · obtain ⟨h1, h⟩ := cx_ge h
    obtain ⟨a, h2, h⟩ := cx_be h
    refine cx_st hc ?_
    show am_g (Nat.beq l 1 && _) (am_o1 S _)
    rw [h1, cx_sre h2]
    exact hi _ _ _ _ _ _ _ h m hR Q k0 s0 hq
  · obtain ⟨h1, h⟩ := cx_ge h
    obtain ⟨a, h2, h⟩ := cx_be h
    refine cx_st hc ?_
    show am_g (Nat.beq l 1 && _) (am_i1 S _)
    rw [h1, cx_sie h2]
    exact hi _ _ _ _ _ _ _ h m hR Q k0 s0 hq
  · obtain ⟨h1, h⟩ := cx_ge h
    obtain ⟨a, h2, h⟩ := cx_be h
    refine cx_st hc ?_
    show am_g (Nat.beq l 3 && _) (am_iV (am_ge L _) _)
    rw [h1, cx_ie h2]
    exact ⟨_, rfl, hi _ _ _ _ _ _ _ h m hR Q k0 s0 hq⟩
  · obtain ⟨h1, h⟩ := cx_ge h
    refine cx_st hc ?_
    show am_g (Nat.beq l 1) _
    rw [h1]
    exact ⟨_, rfl, hi _ _ _ _ _ _ _ h m hR Q k0 s0 hq⟩
  · obtain ⟨h1, h⟩ := cx_ge h
    refine cx_st hc ?_
    show am_g (Nat.beq l 2) _
    rw [h1]
    exact ⟨_, rfl, hi _ _ _ _ _ _ _ h m hR Q k0 s0 hq⟩
  · obtain ⟨h1, h⟩ := cx_ge h
    refine cx_st hc ?_
    show am_g (Nat.beq l 3) _
    rw [h1]
    exact ⟨_, rfl, hi _ _ _ _ _ _ _ h m hR Q k0 s0 hq⟩
  · obtain ⟨h1, h⟩ := cx_ge h
    obtain ⟨a, h2, h⟩ := cx_be h
    refine cx_st hc ?_
    show am_g (Nat.beq l 1) (am_v1 S _)
    rw [h1, cx_sre h2]
    exact ⟨rfl, hi _ _ _ _ _ _ _ h m hR Q k0 s0 hq⟩
  · obtain ⟨h1, h⟩ := cx_ge h
    refine cx_st hc ?_
    show am_g (Nat.beq l 3 && _) _
    rw [h1]
    exact hi _ _ _ _ _ _ _ h m hR Q k0 s0 hq
  · obtain ⟨h1, h⟩ := cx_ge h
    obtain ⟨y, h2, h⟩ := cx_be h
    obtain ⟨x, h3, h⟩ := cx_be h
    refine cx_st hc ?_
    show am_g (Nat.beq l 3 && _) (am_i2 S _)
    rw [h1, cx_sie h2, cx_sie h3]
    by_cases d : y.1 ≤ x.1
    · rw [decide_eq_true d] at h
      exact ⟨fun _ => hi _ _ _ _ _ _ _ h m hR Q k0 s0 hq, fun w => absurd d w⟩
    · rw [decide_eq_false d] at h
      exact ⟨fun w => absurd w d, fun _ => hi _ _ _ _ _ _ _ h m hR Q k0 s0 hq⟩
  · obtain ⟨h1, h⟩ := cx_ge h
    obtain ⟨a, h2, h⟩ := cx_be h
    obtain ⟨h3, h⟩ := cx_ge h
    obtain ⟨a3, b3, kk⟩ := cx_ke hR h3
    refine cx_st hc ?_
    show am_g (Nat.beq l 1) (am_r1 S _)
    rw [h1, cx_sre h2]
    exact ⟨_, _, kk, Or.inl rfl, hi _ _ _ _ _ _ _ h m hR Q k0 s0 hq⟩
  · obtain ⟨h1, h⟩ := cx_ge h
    obtain ⟨x, h2, h⟩ := cx_be h
    obtain ⟨i, h3, h⟩ := cx_be h
    obtain ⟨a, h4, h⟩ := cx_be h
    obtain ⟨h5, h⟩ := cx_ge h
    obtain ⟨h6, h7⟩ := Bool.and_eq_true_iff.mp h5
    obtain ⟨a3, b3, kk⟩ := cx_ke hR h6
    refine cx_st hc ?_
    show am_g (Nat.beq l 1) (am_i1 S _)
    rw [h1, cx_sie h2]
    show am_i1 x.2 _
    rw [cx_sie h3]
    show am_r1 i.2 _
    rw [cx_sre h4]
    exact ⟨_, kk, b3, cx_ine h7, hi _ _ _ _ _ _ _ h _ (hR.pI _ _ _) Q k0 s0 (fun m' r' l' => hq m' r' ((cx_L.pI m a3 _ _).tr l'))⟩
  · obtain ⟨h1, h⟩ := cx_ge h
    obtain ⟨b, h2, h⟩ := cx_be h
    obtain ⟨i, h3, h⟩ := cx_be h
    obtain ⟨a, h4, h⟩ := cx_be h
    obtain ⟨h5, h⟩ := cx_ge h
    obtain ⟨h6, h7⟩ := Bool.and_eq_true_iff.mp h5
    obtain ⟨h8, h9⟩ := Bool.and_eq_true_iff.mp h7
    obtain ⟨a3, b3, kk⟩ := cx_ke hR h6
    obtain ⟨a4, b4, kb⟩ := cx_ke hR h8
    refine cx_st hc ?_
    show am_g (Nat.beq l 1) (am_o1 S _)
    rw [h1, cx_sre h2]
    show am_i1 b.2 _
    rw [cx_sie h3]
    show am_r1 i.2 _
    rw [cx_sre h4]
    exact ⟨_, _, kk, Or.inr ⟨rfl, fun b' e => by cases e; exact ⟨kb, b4⟩⟩, b3, cx_ine h9, rfl, hi _ _ _ _ _ _ _ h _ (hR.pR _ _ _) Q k0 s0 (fun m' r' l' => hq m' r' ((cx_L.pR m _ _ _).tr l'))⟩
  · obtain ⟨h1, h⟩ := cx_ge h
    obtain ⟨t, h2, h⟩ := cx_be h
    obtain ⟨ci, nf, t4⟩ := t
    obtain ⟨p, h3, rfl⟩ := cx_ae h
    refine cx_st hc ?_
    show am_g (Nat.beq l 3) (match am_lk (am_NT (am_cls mi)) _ with | some (ci, nf, _) => _ | none => False)
    rw [h1, h2]
    refine ⟨p.2.2.2.2.1 + k0, p.2.2.2.2.2 + s0, by dsimp only; omega, by dsimp only; omega, fun _ => rfl, rfl, ?_⟩
    rw [hR.1]
    have := hi _ _ _ _ _ _ _ h3 _ (hR.al (ci, 0)) Q k0 s0 (fun m' r' l' => hq m' r' ((cx_L.al m _).tr l'))
    exact this
  · obtain ⟨h1, h⟩ := cx_ge h
    obtain ⟨n, h2, h⟩ := cx_be h
    obtain ⟨h3, h⟩ := cx_ge h
    obtain ⟨p, h4, rfl⟩ := cx_ae h
    obtain ⟨h5, h6⟩ := Bool.and_eq_true_iff.mp h3
    refine cx_st hc ?_
    show am_g (Nat.beq l 2) (am_i1 S _)
    rw [h1, cx_sie h2]
    refine ⟨p.2.2.2.2.1 + k0, p.2.2.2.2.2 + s0, by dsimp only; omega, by dsimp only; omega, fun _ => rfl, rfl, fun z => (by rw [decide_eq_true z] at h5; cases h5), Nat.le_of_ble_eq_true h6, ?_⟩
    rw [hR.1]
    have := hi _ _ _ _ _ _ _ h4 _ (hR.al (20, n.1.toNatClampNeg)) Q k0 s0 (fun m' r' l' => hq m' r' ((cx_L.al m _).tr l'))
    exact this
  · obtain ⟨h1, h⟩ := cx_ge h
    obtain ⟨n, h2, h⟩ := cx_be h
    obtain ⟨h3, h⟩ := cx_ge h
    obtain ⟨p, h4, rfl⟩ := cx_ae h
    obtain ⟨h5, h6⟩ := Bool.and_eq_true_iff.mp h3
    refine cx_st hc ?_
    show am_g (Nat.beq l 2) (am_i1 S _)
    rw [h1, cx_sie h2]
    refine ⟨p.2.2.2.2.1 + k0, p.2.2.2.2.2 + s0, by dsimp only; omega, by dsimp only; omega, fun _ => rfl, rfl, fun z => (by rw [decide_eq_true z] at h5; cases h5), Nat.le_of_ble_eq_true h6, ?_⟩
    rw [hR.1]
    have := hi _ _ _ _ _ _ _ h4 _ (hR.al (21, n.1.toNatClampNeg)) Q k0 s0 (fun m' r' l' => hq m' r' ((cx_L.al m _).tr l'))
    exact this
  · obtain ⟨h1, h⟩ := cx_ge h
    obtain ⟨n, h2, h⟩ := cx_be h
    obtain ⟨h3, h⟩ := cx_ge h
    obtain ⟨p, h4, rfl⟩ := cx_ae h
    obtain ⟨h5, h6⟩ := Bool.and_eq_true_iff.mp h3
    refine cx_st hc ?_
    show am_g (Nat.beq l 2) (am_i1 S _)
    rw [h1, cx_sie h2]
    refine ⟨p.2.2.2.2.1 + k0, p.2.2.2.2.2 + s0, by dsimp only; omega, by dsimp only; omega, fun _ => rfl, rfl, fun z => (by rw [decide_eq_true z] at h5; cases h5), Nat.le_of_ble_eq_true h6, ?_⟩
    rw [hR.1]
    have := hi _ _ _ _ _ _ _ h4 _ (hR.al (22, n.1.toNatClampNeg)) Q k0 s0 (fun m' r' l' => hq m' r' ((cx_L.al m _).tr l'))
    exact this
  · obtain ⟨h1, h⟩ := cx_ge h
    obtain ⟨t, h0, h⟩ := cx_be h
    obtain ⟨n, h2, h⟩ := cx_be h
    obtain ⟨h3, h⟩ := cx_ge h
    obtain ⟨p, h4, rfl⟩ := cx_ae h
    obtain ⟨h5, h6⟩ := Bool.and_eq_true_iff.mp h3
    refine cx_st hc ?_
    show am_g (Nat.beq l 3) (match am_lk (am_AT (am_cls mi)) _ with | some (c, _) => _ | none => False)
    rw [h1, h0]
    show am_i1 S _
    rw [cx_sie h2]
    refine ⟨p.2.2.2.2.1 + k0, p.2.2.2.2.2 + s0, by dsimp only; omega, by dsimp only; omega, fun _ => rfl, rfl, fun z => (by rw [decide_eq_true z] at h5; cases h5), Nat.le_of_ble_eq_true h6, ?_⟩
    rw [hR.1]
    have := hi _ _ _ _ _ _ _ h4 _ (hR.al (t.1, n.1.toNatClampNeg)) Q k0 s0 (fun m' r' l' => hq m' r' ((cx_L.al m _).tr l'))
    exact this
  · obtain ⟨h1, h⟩ := cx_ge h
    obtain ⟨t, h0, h⟩ := cx_be h
    refine cx_st hc ?_
    show am_g (Nat.beq l 3) (match am_lk (am_FT (am_cls mi)) _ with | some (ci, k, _) => am_pf am_Y0 mi _ _ pc L S m _ ci k | none => False)
    rw [h1, h0]
    show am_pf am_Y0 mi _ _ pc L S m _ t.1 t.2.1
    unfold am_pf
    cases hr : am_isr t.1 t.2.1 with
    | true =>
      rw [hr] at h
      obtain ⟨b, h2, h⟩ := cx_be h
      obtain ⟨a, h3, h⟩ := cx_be h
      obtain ⟨h4, h⟩ := cx_ge h
      obtain ⟨h5, h6⟩ := Bool.and_eq_true_iff.mp h4
      obtain ⟨a3, b3, kk⟩ := cx_ke hR h5
      rw [cx_sre h2]
      show am_r1 b.2 _
      rw [cx_sre h3]
      exact ⟨kk, b3, h6, rfl, hi _ _ _ _ _ _ _ h _ (hR.pR _ _ _) Q k0 s0 (fun m' r' l' => hq m' r' ((cx_L.pR m _ _ _).tr l'))⟩
    | false =>
      rw [hr] at h
      obtain ⟨b, h2, h⟩ := cx_be h
      obtain ⟨a, h3, h⟩ := cx_be h
      obtain ⟨h4, h⟩ := cx_ge h
      obtain ⟨h5, h6⟩ := Bool.and_eq_true_iff.mp h4
      obtain ⟨h7, h8⟩ := Bool.and_eq_true_iff.mp h6
      obtain ⟨a3, b3, kk⟩ := cx_ke hR h5
      rw [cx_sie h2]
      show am_r1 b.2 _
      rw [cx_sre h3]
      refine ⟨kk, b3, h7, ?_⟩
      have nb : am_isb t.1 t.2.1 = false := by
        cases z : am_isb t.1 t.2.1
        · rfl
        · rw [z] at h8
          cases h8
      rw [nb]
      exact hi _ _ _ _ _ _ _ h _ (hR.pI _ _ _) Q k0 s0 (fun m' r' l' => hq m' r' ((cx_L.pI m a3 _ _).tr l'))
  · obtain ⟨h1, h⟩ := cx_ge h
    obtain ⟨t, h0, h⟩ := cx_be h
    obtain ⟨hr, h⟩ := cx_ge h
    obtain ⟨a, h2, h⟩ := cx_be h
    obtain ⟨h3, h⟩ := cx_ge h
    obtain ⟨b, h4, h⟩ := cx_be h
    obtain ⟨a3, b3, kk⟩ := cx_ke hR h3
    refine cx_st hc ?_
    show am_g (Nat.beq l 3) (match am_lk (am_FT (am_cls mi)) _ with | some (ci, k, _) => am_gf am_Y0 _ _ pc L S m _ ci k | none => False)
    rw [h1, h0]
    show am_gf am_Y0 _ _ pc L S m _ t.1 t.2.1
    unfold am_gf
    rw [cx_sre h2, hr]
    refine ⟨kk, b3, some b, ?_, hi _ _ _ _ _ _ _ h m hR Q k0 s0 hq⟩
    show m.2.2.1 a.1 t.2.1 = some b
    rw [(hR.2 a.1 a3).2.2.1]
    exact h4
  · obtain ⟨h1, h⟩ := cx_ge h
    obtain ⟨t, h0, h⟩ := cx_be h
    obtain ⟨h2, h⟩ := cx_ge h
    refine cx_st hc ?_
    show am_g (Nat.beq l 3) (match am_lk (am_CT (am_cls mi)) _ with | some q => am_ins mi _ _ pc L S m _ _ q | none => False)
    rw [h1, h0]
    obtain ⟨t1, t2, t3, t4⟩ := t
    have : t1 = 1 := Nat.eq_of_beq_eq_true h2
    subst this
    exact cx_call hi h hR Q k0 s0 hq
  · obtain ⟨h1, h⟩ := cx_ge h
    obtain ⟨t, h0, h⟩ := cx_be h
    refine cx_st hc ?_
    show am_g (Nat.beq l 3) (match am_lk (am_CT (am_cls mi)) _ with | some q => am_inp mi _ _ pc L S m _ _ q | none => False)
    rw [h1, h0]
    obtain ⟨t1, t2, t3, t4⟩ := t
    cases h4 : Nat.beq t1 4 with
    | true =>
      have : t1 = 4 := Nat.eq_of_beq_eq_true h4
      subst this
      obtain ⟨a, h5, h⟩ := cx_be h
      obtain ⟨h6, h⟩ := cx_ge h
      show am_r1 S _
      rw [cx_sre h5]
      exact ⟨h6, hi _ _ _ _ _ _ _ h m hR Q k0 s0 hq⟩
    | false =>
      dsimp only at h
      rw [h4] at h
      obtain ⟨h5, h7⟩ := cx_ge h
      obtain ⟨a, h6, h8⟩ := cx_be h7
      cases z : Nat.beq t1 2 with
      | true =>
        have : t1 = 2 := Nat.eq_of_beq_eq_true z
        subst this
        show am_v1 (S.drop (t3 - 1)) _
        rw [cx_sre h6]
        exact ⟨⟨_, rfl⟩, cx_call hi h8 hR Q k0 s0 hq⟩
      | false =>
        rw [z] at h5
        have : t1 = 3 := Nat.eq_of_beq_eq_true h5
        subst this
        show am_v1 (S.drop (t3 - 1)) _
        rw [cx_sre h6]
        exact ⟨⟨_, rfl⟩, cx_call hi h8 hR Q k0 s0 hq⟩
  · cases h
end CXS
theorem cx_ok (n : Nat) : cx_P (cx n) := by
  induction n with
  | zero =>
    intro mi st pc L S c q h
    cases h
  | succ n ih =>
    intro mi st pc L S c q h m hR Q k0 s0 hq
    have h : cx_b (cx n) mi st pc L S c = some q := h
    unfold cx_b at h
    cases z : Nat.beq pc st with
    | true =>
      rw [z] at h
      cases h
      show am_WP am_Y0 mi (0 + k0) (0 + s0) pc L S m Q
      rw [Nat.zero_add, Nat.zero_add]
      exact hq m hR (cx_L.rf m)
    | false =>
      rw [z] at h
      obtain ⟨t, h1, h2⟩ := cx_be h
      obtain ⟨i, l⟩ := t
      exact cx_1 ih hR hq h1 h2
