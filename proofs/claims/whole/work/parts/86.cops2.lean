/-! ===== the class: ways, crews, the wood ===== -/
theorem cbs_sym {m : am_M} {a s : Nat} (h : ced m a s = true) : ∃ k, k < 4 ∧ cbs m s k = (a : Int) := by
  obtain ⟨ha, hta, k, hk, hb⟩ := ced_k m h
  have hta2 : cth m ((a : Int) / 16) ((a : Int) % 16) = true := by
    unfold cth
    refine decide_eq_true ⟨by omega, by omega, by omega, by omega, ?_⟩
    rw [show (16 * ((a : Int) / 16) + (a : Int) % 16).toNat = a by omega]
    exact hta
  have key : ∀ (dr dc dr' dc' : Int) (k' : Nat), k' < 4 → dr' = -dr → dc' = -dc → (cth m ((a : Int) / 16 + dr) ((a : Int) % 16 + dc) = true → (16 * ((a : Int) / 16 + dr) + ((a : Int) % 16 + dc)) = (s : Int) → cbs m s k' = (if cth m ((s : Int) / 16 + dr') ((s : Int) % 16 + dc') then 16 * ((s : Int) / 16 + dr') + ((s : Int) % 16 + dc') else -1) → cbs m s k' = (a : Int)) := by
    intro dr dc dr' dc' k' hk' e1 e2 h1 h2 h3
    have hb := cth_b h1
    have r1 : (s : Int) / 16 + dr' = (a : Int) / 16 := by omega
    have r2 : (s : Int) % 16 + dc' = (a : Int) % 16 := by omega
    rw [h3, r1, r2, if_pos hta2]
    omega
  unfold cbs at hb
  dsimp only at hb
  by_cases c : cth m ((a : Int) / 16 + (if k = 0 then -1 else if k = 3 then 1 else 0)) ((a : Int) % 16 + (if k = 1 then -1 else if k = 2 then 1 else 0)) = true
  · rw [if_pos c] at hb
    match k, hk with
    | 0, _ => exact ⟨3, by decide, key (-1) 0 1 0 3 (by decide) (by decide) (by decide) c hb rfl⟩
    | 1, _ => exact ⟨2, by decide, key 0 (-1) 0 1 2 (by decide) (by decide) (by decide) c hb rfl⟩
    | 2, _ => exact ⟨1, by decide, key 0 1 0 (-1) 1 (by decide) (by decide) (by decide) c hb rfl⟩
    | 3, _ => exact ⟨0, by decide, key 1 0 (-1) 0 0 (by decide) (by decide) (by decide) c hb rfl⟩
  · rw [if_neg c] at hb
    omega
theorem cstp {m : am_M} (hW : WO m) {g : Nat} {L : Nat → Nat} (h : tab (ced m) (cw m) g L) : stp (nst (cbs m) (cw m) L) L g := by
  refine nst_stp (cgr hW) h (fun a s => cbs_sym) (fun s k hs hk => ?_) (fun s k hs hk hne => ?_)
  · rcases cbs_b m hs hk with z | z
    · exact Or.inl z
    · exact Or.inr ⟨z.1, z.2.1⟩
  · have hb := (cbs_b m hs hk).resolve_left hne
    have := (cwi_b hW (a := (cbs m s k).toNat) (b := s) (by omega) hs).2.2 hb.2.2
    unfold cw
    omega
theorem WC_of {m : am_M} {g : Nat} (hg : g < 256) (h1 : m.1 87 6 = iI (g : Int)) (h2 : wz m) (h3 : wtab m g) : WC m := by
  refine ⟨h2, fun g' hg' e => ?_⟩
  rw [h1] at e
  have := (iI_eq (by omega) (by omega) (by omega) (by omega)).mp e
  rw [show g' = g by omega]
  exact h3
theorem lvt_le {m : am_M} {B : Nat} (h : LB m B) (hB : B ≤ 900000000) (q : Nat) : lvt m q ≤ 1000000000 := by
  by_cases c : q < 256
  · rw [lvt_lt c]
    exact lv_le h hB c
  · unfold lvt
    rw [if_neg c]
    exact Nat.le_refl _
theorem lv_an {m : am_M} {B q : Nat} (hL : LB m B) (hB : B < 1000000000) (hq : q < 256) : m.1 88 q = iI (if lvt m q = 1000000000 then -1 else (lvt m q : Int)) := by
  rw [lvt_lt hq]
  by_cases c : m.1 88 q = -1
  · rw [lv_n c, if_pos rfl, c]
    rfl
  · have := lv_v hL hB hq c
    rw [if_neg (by omega)]
    exact this.1
/-- the crews as the class holds them -/
def CS (m : am_M) (C : Nat) : Prop := C ≤ 8 ∧ m.1 91 6 = iI (C : Int) ∧ ∀ k, k < C → 0 ≤ (m.1 92 k).toInt ∧ (m.1 92 k).toInt < 256
theorem CS.at {m : am_M} {C : Nat} (h : CS m C) {k : Int} (hk : cco m k = true) : k = (k.toNat : Int) ∧ k.toNat < C ∧ m.1 92 k.toNat = iI (cat m k.toNat : Int) ∧ cat m k.toNat < 256 := by
  have hC := h.1
  have y := of_decide_eq_true hk
  rw [h.2.1, iI_to (by omega) (by omega)] at y
  have b := h.2.2 k.toNat (by omega)
  unfold cat
  refine ⟨by omega, by omega, ?_, by omega⟩
  rw [Int.toNat_of_nonneg b.1, iI_self]
/-- a square's number, where there is one -/
theorem num_of {m : am_M} {r c : Int} : (cth m r c = false → (iI (if cth m r c then 16 * r + c else -1)) = (-1 : Int32)) ∧ (cth m r c = true → (iI (if cth m r c then 16 * r + c else -1)) = iI (((16 * r + c).toNat : Nat) : Int) ∧ (16 * r + c).toNat < 256 ∧ (¬ iI (((16 * r + c).toNat : Nat) : Int) = (-1 : Int32)) ∧ wb (m.2.1 8) (16 * r + c).toNat = true) := by
  refine ⟨fun z => by rw [z]; rfl, fun z => ?_⟩
  have b := cth_b z
  refine ⟨by rw [if_pos z]; congr 1; omega, by omega, fun w => ?_, b.2.2.2.2⟩
  have := (iI_eq (b := -1) (by omega) (by omega) (by omega) (by omega)).mp w
  omega
theorem S_cminutes (m : am_M) (Q : Option Value → am_M → Prop) (hW : WO m) (hWC : WC m) (C : Nat) (hC : CS m C) (k r c : Int) (hbk : -2147483648 ≤ k ∧ k ≤ 2147483647) (hbr : -2147483648 ≤ r ∧ r ≤ 2147483647) (hbc : -2147483648 ≤ c ∧ c ≤ 2147483647)
    (h0 : (cco m k && cth m r c) = false → Q (some (.int (-1))) m)
    (h1 : (cco m k && cth m r c) = true → cat m k.toNat < 256 → ∀ m1, (∀ q, lvt m1 q ≤ 1000000000) → Ag [87, 88, 89, 90] m m1 → WC m1 → tab (ced m) (cw m) (16 * r + c).toNat (lvt m1) → Q (some (.int (iI (if lvt m1 (cat m k.toNat) = 1000000000 then -1 else (lvt m1 (cat m k.toNat) : Int))))) m1) :
    am_WP YL 137 0 0 0 [some (.ref 3), some (.int (iI k)), some (.int (iI r)), some (.int (iI c)), none] [] m Q := by
  refine B_X10_minutes_0 m Q _ _ _ (S_numberOf m _ r c (by omega) (by omega) (by omega) (by omega) (B_X10_minutes_9 m Q _ _ ?_))
  cases z : cth m r c with
  | false => exact ⟨fun _ => h0 (by rw [z, Bool.and_false]), fun w => absurd rfl w⟩
  | true =>
    obtain ⟨b1, b2, b3, b4⟩ := num_of.2 z
    rw [z] at b1
    rw [b1]
    refine ⟨fun w => absurd w b3, fun _ => S_cIsOne m _ k hbk (B_X10_minutes_25 m Q _ _ _ (bz' (fun y => h0 (by rw [y, Bool.false_and])) (fun y => ?_)))⟩
    refine S_leadTo m _ hW _ b2 b4 hWC.1 (hWC.2 _ b2) (fun m1 f1 g1 g2 g3 => B_X10_minutes_39 m1 Q _ (S_standsAt m1 _ k hbk ?_))
    obtain ⟨c1, c2, c3, c4⟩ := hC.at y
    have ec : cco m1 k = true := by
      unfold cco
      rw [f1.I (by decide)]
      exact y
    rw [if_pos ec, f1.I (by decide), c3]
    have hg : ¬ m1.1 87 6 = -1 := by rw [g1]; exact b3
    refine B_X10_minutes_51 m1 Q _ (S_minutesFrom m1 _ _ c4 hg (B_X10_minutes_54 m1 Q _ ?_))
    rw [lv_an g3.1 (by decide) c4]
    refine h1 (by rw [y, z]; rfl) c4 m1 (lvt_le g3.1 (by decide)) f1 (WC_of b2 g1 g2 g3) ?_
    have t := g3.2
    rw [show ced m1 = ced m from funext fun a => funext fun b => ced_fr (f1.J (by decide)) a b, show cw m1 = cw m from funext fun a => funext fun b => cw_fr (f1.I (by decide)) (f1.I (by decide)) a b] at t
    exact t
theorem S_cway (m : am_M) (Q : Option Value → am_M → Prop) (hW : WO m) (hWC : WC m) (C : Nat) (hC : CS m C) (k r c i : Int) (hbk : -2147483648 ≤ k ∧ k ≤ 2147483647) (hbr : -2147483648 ≤ r ∧ r ≤ 2147483647) (hbc : -2147483648 ≤ c ∧ c ≤ 2147483647) (hbi : -2147483648 ≤ i ∧ i ≤ 2147483647)
    (h0 : (cco m k && cth m r c) = false → Q (some (.int (-1))) m)
    (h1 : (cco m k && cth m r c) = true → cat m k.toNat < 256 → ∀ m1 L, (∀ q, L q ≤ 1000000000) → Ag [87, 88, 89, 90] m m1 → WC m1 → tab (ced m) (cw m) (16 * r + c).toNat L → Q (some (.int (iI (if 0 ≤ i ∧ L (cat m k.toNat) < 1000000000 then wlk (nst (cbs m) (cw m) L) (16 * r + c).toNat (cat m k.toNat : Int) i.toNat else -1)))) m1) :
    am_WP YL 138 0 0 0 [some (.ref 3), some (.int (iI k)), some (.int (iI r)), some (.int (iI c)), some (.int (iI i)), none] [] m Q := by
  refine B_X10_way_0 m Q _ _ _ _ (S_numberOf m _ r c (by omega) (by omega) (by omega) (by omega) (B_X10_way_9 m Q _ _ _ ?_))
  cases z : cth m r c with
  | false => exact ⟨fun _ => h0 (by rw [z, Bool.and_false]), fun w => absurd rfl w⟩
  | true =>
    obtain ⟨b1, b2, b3, b4⟩ := num_of.2 z
    rw [z] at b1
    rw [b1]
    refine ⟨fun w => absurd w b3, fun _ => S_cIsOne m _ k hbk (B_X10_way_25 m Q _ _ _ _ (bz' (fun y => h0 (by rw [y, Bool.false_and])) (fun y => ?_)))⟩
    refine S_leadTo m _ hW _ b2 b4 hWC.1 (hWC.2 _ b2) (fun m1 f1 g1 g2 g3 => B_X10_way_39 m1 Q _ _ (S_standsAt m1 _ k hbk ?_))
    obtain ⟨c1, c2, c3, c4⟩ := hC.at y
    have ec : cco m1 k = true := by
      unfold cco
      rw [f1.I (by decide)]
      exact y
    have hW1 : WO m1 := hW.fr f1 (by decide) (by decide) (by decide)
    rw [if_pos ec, f1.I (by decide), c3]
    refine B_X10_way_51 m1 Q _ _ (S_stepFrom m1 _ hW1 _ b2 g1 40000000 (by decide) g3.1 (cstp hW1 g3.2) _ c4 i hbi (B_X10_way_56 m1 Q _ ?_))
    have t := g3.2
    have e1 : ced m1 = ced m := funext fun a => funext fun b => ced_fr (f1.J (by decide)) a b
    have e2 : cw m1 = cw m := funext fun a => funext fun b => cw_fr (f1.I (by decide)) (f1.I (by decide)) a b
    have e3 : cbs m1 = cbs m := funext fun a => funext fun b => cbs_fr (f1.J (by decide)) a b
    rw [e1, e2] at t
    rw [e2, e3]
    exact h1 (by rw [y, z]; rfl) c4 m1 _ (lvt_le g3.1 (by decide)) f1 (WC_of b2 g1 g2 g3) t
theorem S_ccrew (m : am_M) (Q : Option Value → am_M → Prop) (C : Nat) (hC : CS m C) (tp sz : Nat) (ht : tp < 50) (hs : sz ≤ 50) (h4 : m.1 97 4 = iI (tp : Int)) (h5 : m.1 97 5 = iI (sz : Int)) (r c : Int) (hbr : -2147483648 ≤ r ∧ r ≤ 2147483647) (hbc : -2147483648 ≤ c ∧ c ≤ 2147483647)
    (h0 : (cth m r c && !decide (C = 8)) = false → Q (some (.int (-1))) m)
    (h1 : (cth m r c && !decide (C = 8)) = true → ∀ m0 m1, Ag [91, 92] m m0 → m0.1 91 6 = iI ((C + 1 : Nat) : Int) → (∀ k, m0.1 92 k = if k = C then iI (16 * r + c) else m.1 92 k) → Kept m0 m1 tp sz 6 (iI (C : Int)) (-1) none → Q (some (.int (iI (C : Int)))) m1) :
    am_WP YL 134 0 0 0 [some (.ref 3), some (.int (iI r)), some (.int (iI c)), none, none] [] m Q := by
  refine B_X10_crew_0 m Q _ _ (S_numberOf m _ r c (by omega) (by omega) (by omega) (by omega) (B_X10_crew_9 m Q _ ?_))
  have hc8 := hC.1
  cases z : cth m r c with
  | false => exact ⟨fun w => absurd rfl w, fun _ => ⟨fun _ => h0 (by rw [z, Bool.false_and]), fun w => absurd rfl w⟩⟩
  | true =>
    obtain ⟨b1, b2, b3, b4⟩ := num_of.2 z
    rw [z] at b1
    rw [b1]
    refine ⟨fun _ => ?_, fun w => absurd w b3⟩
    by_cases e8 : C = 8
    · refine S_comeNo m _ (by rw [hC.2.1, e8]; rfl) _ (B_X10_crew_27 m Q _ ⟨fun _ => h0 (by rw [decide_eq_true e8, Bool.not_true, Bool.and_false]), fun w => absurd rfl w⟩)
    · refine S_come m _ C (by omega) hC.2.1 _ (fun m0 f0 g1 g2 => B_X10_crew_27 m0 Q _ ⟨fun w => absurd ((iI_eq (b := -1) (by omega) (by omega) (by omega) (by omega)).mp w) (by omega), fun _ => ?_⟩)
      refine S_keepN m0 _ tp sz ht hs (by rw [f0.I (by decide)]; exact h4) (by rw [f0.I (by decide)]; exact h5) _ _ _ (fun m1 k1 => B_X10_crew_48 m1 Q _ (h1 (by rw [z, decide_eq_false e8]; rfl) m0 m1 f0 g1 (fun k => ?_) k1))
      rw [g2 k]
      have := cth_b z
      rw [show (((16 * r + c).toNat : Nat) : Int) = 16 * r + c by omega]
theorem S_cmove (m : am_M) (Q : Option Value → am_M → Prop) (hW : WO m) (hWC : WC m) (C : Nat) (hC : CS m C) (tp sz : Nat) (ht : tp < 50) (hs : sz ≤ 50) (h4 : m.1 97 4 = iI (tp : Int)) (h5 : m.1 97 5 = iI (sz : Int)) (k r c : Int) (hbk : -2147483648 ≤ k ∧ k ≤ 2147483647) (hbr : -2147483648 ≤ r ∧ r ≤ 2147483647) (hbc : -2147483648 ≤ c ∧ c ≤ 2147483647)
    (h0 : (cco m k && cth m r c) = false → Q (some (.int 0)) m)
    (h2 : (cco m k && cth m r c) = true → cat m k.toNat < 256 → ∀ m1, Ag [87, 88, 89, 90] m m1 → WC m1 → tab (ced m) (cw m) (16 * r + c).toNat (lvt m1) → lvt m1 (cat m k.toNat) = 1000000000 → Q (some (.int 0)) m1)
    (h1 : (cco m k && cth m r c) = true → cat m k.toNat < 256 → ∀ m1 m2, Ag [87, 88, 89, 90] m m1 → WC m1 → tab (ced m) (cw m) (16 * r + c).toNat (lvt m1) → lvt m1 (cat m k.toNat) < 1000000000 → Kept (am_pI m1 92 k.toNat (iI (16 * r + c))) m2 tp sz 7 (iI k) (m.1 92 k.toNat) none → Q (some (.int 1)) m2) :
    am_WP YL 135 0 0 0 [some (.ref 3), some (.int (iI k)), some (.int (iI r)), some (.int (iI c)), none, none] [] m Q := by
  refine B_X10_move_0 m Q _ _ _ (S_numberOf m _ r c (by omega) (by omega) (by omega) (by omega) (B_X10_move_9 m Q _ _ ?_))
  cases z : cth m r c with
  | false => exact ⟨fun _ => h0 (by rw [z, Bool.and_false]), fun w => absurd rfl w⟩
  | true =>
    obtain ⟨b1, b2, b3, b4⟩ := num_of.2 z
    rw [z] at b1
    rw [b1]
    refine ⟨fun w => absurd w b3, fun _ => S_cIsOne m _ k hbk (B_X10_move_25 m Q _ _ _ (bz' (fun y => h0 (by rw [y, Bool.false_and])) (fun y => S_standsAt m _ k hbk (B_X10_move_38 m Q _ _ _ ?_))))⟩
    rw [if_pos y]
    refine S_leadTo m _ hW _ b2 b4 hWC.1 (hWC.2 _ b2) (fun m1 f1 g1 g2 g3 => B_X10_move_49 m1 Q _ _ _ ?_)
    obtain ⟨c1, c2, c3, c4⟩ := hC.at y
    have ec : cco m1 k = true := by
      unfold cco
      rw [f1.I (by decide)]
      exact y
    have hg : ¬ m1.1 87 6 = -1 := by rw [g1]; exact b3
    have t := g3.2
    rw [show ced m1 = ced m from funext fun a => funext fun b => ced_fr (f1.J (by decide)) a b, show cw m1 = cw m from funext fun a => funext fun b => cw_fr (f1.I (by decide)) (f1.I (by decide)) a b] at t
    have hwc := WC_of b2 g1 g2 g3
    rw [c3]
    refine S_minutesFrom m1 _ _ c4 hg (B_X10_move_58 m1 Q _ _ _ _ ⟨fun w => ?_, fun w => h2 (by rw [y, z]; rfl) c4 m1 f1 hwc t (by rw [lvt_lt c4]; exact lv_n w)⟩)
    have lv' := lv_v g3.1 (by decide) c4 w
    rw [c1] at ec ⊢
    refine S_stand m1 _ _ ec _ (B_X10_move_74 _ Q _ _ ?_)
    refine S_keepN _ _ tp sz ht hs (by show m1.1 97 4 = _; rw [f1.I (by decide)]; exact h4) (by show m1.1 97 5 = _; rw [f1.I (by decide)]; exact h5) _ _ _ (fun m2 k2 => B_X10_move_87 m2 Q (h1 (by rw [y, z]; rfl) c4 m1 m2 f1 hwc t (by rw [lvt_lt c4]; omega) ?_))
    have := cth_b z
    rw [show (((16 * r + c).toNat : Nat) : Int) = 16 * r + c by omega] at k2
    rw [c3, c1]
    exact k2
