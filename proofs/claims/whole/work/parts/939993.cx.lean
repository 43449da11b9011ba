/-! ===== constructors: run them on a closed memory ===== -/
abbrev cx_T : Type := am_L × List Value × am_M × Nat × Nat × Nat
abbrev cx_F : Type := Nat → Nat → Nat → am_L → List Value → am_M → Option cx_T
def cx_g {α : Type} (b : Bool) (x : Option α) : Option α := cond b x none
def cx_r (v : Option Value) : Option Nat := match v with
  | some (.ref a) => some a
  | _ => none
def cx_i (v : Option Value) : Option Int32 := match v with
  | some (.int a) => some a
  | _ => none
def cx_sr (S : List Value) : Option (Nat × List Value) := match S with
  | .ref a :: r => some (a, r)
  | _ => none
def cx_si (S : List Value) : Option (Int32 × List Value) := match S with
  | .int a :: r => some (a, r)
  | _ => none
def cx_a (k s : Nat) (x : Option cx_T) : Option cx_T := x.bind fun q => some (q.1, q.2.1, q.2.2.1, q.2.2.2.1, q.2.2.2.2.1 + k, q.2.2.2.2.2 + s)
def cx_k (c : am_M) (a ci n : Nat) : Bool := Nat.ble 3 a && (Nat.beq (c.2.2.2.1 a).1 ci && Nat.beq (c.2.2.2.1 a).2 n)
def cx_in (i : Int32) (n : Nat) : Bool := Nat.ble (i.toNatClampNeg + 1) n && !decide (i < 0)
def cx_rt (mj pc : Nat) : Bool := match am_code mj pc with
  | some (.return_, l) => Nat.beq l 1 && Nat.beq (am_rtc mj) 0
  | _ => false
def cx_e (S : List Value) : Bool := match S with
  | [] => true
  | _ => false
def cx_c (ih : cx_F) (mi st pc : Nat) (L : am_L) (S : List Value) (c : am_M) (mj np : Nat) : Option cx_T :=
  cx_g (am_ok mi mj np S) ((ih mj 100000 0 (am_en (am_ml mj) (S.take np).reverse) [] c).bind fun q => cx_g (cx_e q.2.1 && cx_rt mj q.2.2.2.1) (cx_a q.2.2.2.2.1 q.2.2.2.2.2 (ih mi st (pc + 3) L (S.drop np) q.2.2.1)))
def cx_s (ih : cx_F) (mi st pc : Nat) (L : am_L) (S : List Value) (c : am_M) (i : Instr) (l : Nat) : Option cx_T := match i with
  | .return_ => some (L, S, c, pc, 0, 0)
  | .aload_n n => cx_g (Nat.beq l 1) ((cx_r (am_ge L n.val)).bind fun a => ih mi st (pc + 1) L (.ref a :: S) c)
  | .iload_n n => cx_g (Nat.beq l 1) ((cx_i (am_ge L n.val)).bind fun x => ih mi st (pc + 1) L (.int x :: S) c)
  | .astore_n n => cx_g (Nat.beq l 1 && Nat.ble (n.val + 1) (am_ml mi)) ((cx_sr S).bind fun q => ih mi st (pc + 1) (am_s1 L n.val (.ref q.1)) q.2 c)
  | .istore_n n => cx_g (Nat.beq l 1 && Nat.ble (n.val + 1) (am_ml mi)) ((cx_si S).bind fun q => ih mi st (pc + 1) (am_s1 L n.val (.int q.1)) q.2 c)
  | .iinc n d => cx_g (Nat.beq l 3 && Nat.ble (n + 1) (am_ml mi)) ((cx_i (am_ge L n)).bind fun x => ih mi st (pc + 3) (am_s1 L n (.int (x + Int32.ofInt d))) S c)
  | .iconst n => cx_g (Nat.beq l 1) (ih mi st (pc + 1) L (.int (Int32.ofInt n) :: S) c)
  | .bipush n => cx_g (Nat.beq l 2) (ih mi st (pc + 2) L (.int (Int8.ofInt n).toInt32 :: S) c)
  | .sipush n => cx_g (Nat.beq l 3) (ih mi st (pc + 3) L (.int (Int16.ofInt n).toInt32 :: S) c)
  | .dup => cx_g (Nat.beq l 1) ((cx_sr S).bind fun q => ih mi st (pc + 1) L (.ref q.1 :: .ref q.1 :: q.2) c)
  | .goto off => cx_g (Nat.beq l 3 && am_tok pc off) (ih mi st (am_to pc off) L S c)
  | .if_icmp .ge off => cx_g (Nat.beq l 3 && am_tok pc off) ((cx_si S).bind fun q => (cx_si q.2).bind fun p => cond (decide (q.1 ≤ p.1)) (ih mi st (am_to pc off) L p.2 c) (ih mi st (pc + 3) L p.2 c))
  | .arraylength => cx_g (Nat.beq l 1) ((cx_sr S).bind fun q => cx_g (cx_k c q.1 20 (c.2.2.2.1 q.1).2) (ih mi st (pc + 1) L (.int (Int32.ofNat (c.2.2.2.1 q.1).2) :: q.2) c))
  | .iastore => cx_g (Nat.beq l 1) ((cx_si S).bind fun x => (cx_si x.2).bind fun i => (cx_sr i.2).bind fun a => cx_g (cx_k c a.1 20 (c.2.2.2.1 a.1).2 && cx_in i.1 (c.2.2.2.1 a.1).2) (ih mi st (pc + 1) L a.2 (am_pI c a.1 i.1.toNatClampNeg x.1)))
  | .aastore => cx_g (Nat.beq l 1) ((cx_sr S).bind fun b => (cx_si b.2).bind fun i => (cx_sr i.2).bind fun a => cx_g (cx_k c a.1 24 (c.2.2.2.1 a.1).2 && (cx_k c b.1 6 0 && cx_in i.1 (c.2.2.2.1 a.1).2)) (ih mi st (pc + 1) L a.2 (am_pR c a.1 i.1.toNatClampNeg (some b.1))))
  | .new idx => cx_g (Nat.beq l 3) ((am_lk (am_NT (am_cls mi)) idx).bind fun t => cx_a 1 t.2.1 (ih mi st (pc + 3) L (.ref (am_n c + 3) :: S) (am_al c (t.1, 0))))
  | .newarray .int => cx_g (Nat.beq l 2) ((cx_si S).bind fun q => cx_g (!decide (q.1 < 0) && Nat.ble q.1.toNatClampNeg 20000) (cx_a 1 q.1.toNatClampNeg (ih mi st (pc + 2) L (.ref (am_n c + 3) :: q.2) (am_al c (20, q.1.toNatClampNeg)))))
  | .newarray .long => cx_g (Nat.beq l 2) ((cx_si S).bind fun q => cx_g (!decide (q.1 < 0) && Nat.ble q.1.toNatClampNeg 20000) (cx_a 1 q.1.toNatClampNeg (ih mi st (pc + 2) L (.ref (am_n c + 3) :: q.2) (am_al c (21, q.1.toNatClampNeg)))))
  | .newarray .boolean => cx_g (Nat.beq l 2) ((cx_si S).bind fun q => cx_g (!decide (q.1 < 0) && Nat.ble q.1.toNatClampNeg 20000) (cx_a 1 q.1.toNatClampNeg (ih mi st (pc + 2) L (.ref (am_n c + 3) :: q.2) (am_al c (22, q.1.toNatClampNeg)))))
  | .anewarray idx => cx_g (Nat.beq l 3) ((am_lk (am_AT (am_cls mi)) idx).bind fun t => (cx_si S).bind fun q => cx_g (!decide (q.1 < 0) && Nat.ble q.1.toNatClampNeg 20000) (cx_a 1 q.1.toNatClampNeg (ih mi st (pc + 3) L (.ref (am_n c + 3) :: q.2) (am_al c (t.1, q.1.toNatClampNeg)))))
  | .putfield idx => cx_g (Nat.beq l 3) ((am_lk (am_FT (am_cls mi)) idx).bind fun t => cond (am_isr t.1 t.2.1)
      ((cx_sr S).bind fun b => (cx_sr b.2).bind fun a => cx_g (cx_k c a.1 t.1 0 && am_wf mi t.1 t.2.1) (ih mi st (pc + 3) L a.2 (am_pR c a.1 t.2.1 (some b.1))))
      ((cx_si S).bind fun x => (cx_sr x.2).bind fun a => cx_g (cx_k c a.1 t.1 0 && (am_wf mi t.1 t.2.1 && !am_isb t.1 t.2.1)) (ih mi st (pc + 3) L a.2 (am_pI c a.1 t.2.1 x.1))))
  | .getfield idx => cx_g (Nat.beq l 3) ((am_lk (am_FT (am_cls mi)) idx).bind fun t => cx_g (am_isr t.1 t.2.1) ((cx_sr S).bind fun a => cx_g (cx_k c a.1 t.1 0) ((c.2.2.1 a.1 t.2.1).bind fun b => ih mi st (pc + 3) L (.ref b :: a.2) c)))
  | .invokestatic idx => cx_g (Nat.beq l 3) ((am_lk (am_CT (am_cls mi)) idx).bind fun t => cx_g (Nat.beq t.1 1) (cx_c ih mi st pc L S c t.2.1 t.2.2.1))
  | .invokespecial idx => cx_g (Nat.beq l 3) ((am_lk (am_CT (am_cls mi)) idx).bind fun t => cond (Nat.beq t.1 4) ((cx_sr S).bind fun q => cx_g (am_okL mi q.2) (ih mi st (pc + 3) L q.2 c)) (cx_g (Nat.beq t.1 2 || Nat.beq t.1 3) ((cx_sr (S.drop (t.2.2.1 - 1))).bind fun _ => cx_c ih mi st pc L S c t.2.1 t.2.2.1)))
  | _ => none
def cx_b (ih : cx_F) (mi st pc : Nat) (L : am_L) (S : List Value) (c : am_M) : Option cx_T := cond (Nat.beq pc st) (some (L, S, c, pc, 0, 0)) ((am_code mi pc).bind fun q => cx_s ih mi st pc L S c q.1 q.2)
noncomputable def cx (n : Nat) : cx_F := Nat.rec (fun _ _ _ _ _ _ => none) (fun _ ih mi st pc L S c => cx_b ih mi st pc L S c) n
/-- the memory is the closed one, but for what was there before -/
def cx_R (c m : am_M) : Prop := am_n m = am_n c ∧ ∀ a, 3 ≤ a → m.1 a = c.1 a ∧ m.2.1 a = c.2.1 a ∧ m.2.2.1 a = c.2.2.1 a ∧ m.2.2.2.1 a = c.2.2.2.1 a
def cx_L (m m' : am_M) : Prop := ∀ a, a < 3 → m'.1 a = m.1 a ∧ m'.2.2.2.1 a = m.2.2.2.1 a
theorem cx_L.rf (m : am_M) : cx_L m m := fun _ _ => ⟨rfl, rfl⟩
theorem cx_L.tr {m m1 m2 : am_M} (h : cx_L m m1) (k : cx_L m1 m2) : cx_L m m2 := fun a ha => ⟨(k a ha).1.trans (h a ha).1, (k a ha).2.trans (h a ha).2⟩
theorem cx_ge {α : Type} {b : Bool} {x : Option α} {r : α} (h : cx_g b x = some r) : b = true ∧ x = some r := by
  cases b
  · cases h
  · exact ⟨rfl, h⟩
theorem cx_be {α β : Type} {x : Option α} {f : α → Option β} {r : β} (h : x.bind f = some r) : ∃ a, x = some a ∧ f a = some r := by
  cases x with
  | none => cases h
  | some a => exact ⟨a, rfl, h⟩
theorem cx_re {v : Option Value} {a : Nat} (h : cx_r v = some a) : v = some (.ref a) := by
  unfold cx_r at h
  split at h
  · cases h; rfl
  · cases h
theorem cx_ie {v : Option Value} {a : Int32} (h : cx_i v = some a) : v = some (.int a) := by
  unfold cx_i at h
  split at h
  · cases h; rfl
  · cases h
theorem cx_sre {S : List Value} {q : Nat × List Value} (h : cx_sr S = some q) : S = .ref q.1 :: q.2 := by
  unfold cx_sr at h
  split at h
  · cases h; rfl
  · cases h
theorem cx_sie {S : List Value} {q : Int32 × List Value} (h : cx_si S = some q) : S = .int q.1 :: q.2 := by
  unfold cx_si at h
  split at h
  · cases h; rfl
  · cases h
theorem cx_ae {k s : Nat} {x : Option cx_T} {q : cx_T} (h : cx_a k s x = some q) : ∃ p, x = some p ∧ q = (p.1, p.2.1, p.2.2.1, p.2.2.2.1, p.2.2.2.2.1 + k, p.2.2.2.2.2 + s) := by
  obtain ⟨p, h1, h2⟩ := cx_be h
  cases h2
  exact ⟨p, h1, rfl⟩
theorem cx_ke {c m : am_M} {a ci n : Nat} (hR : cx_R c m) (h : cx_k c a ci n = true) : 3 ≤ a ∧ Nat.ble 3 a = true ∧ am_k am_Y0 m a = (ci, n) := by
  unfold cx_k at h
  obtain ⟨h1, h⟩ := Bool.and_eq_true_iff.mp h
  obtain ⟨h2, h3⟩ := Bool.and_eq_true_iff.mp h
  have a3 := Nat.le_of_ble_eq_true h1
  refine ⟨a3, h1, ?_⟩
  show m.2.2.2.1 a = _
  rw [(hR.2 a a3).2.2.2]
  exact Prod.ext (Nat.eq_of_beq_eq_true h2) (Nat.eq_of_beq_eq_true h3)
theorem cx_ine {i : Int32} {n : Nat} (h : cx_in i n = true) : vp_in i n := by
  unfold cx_in at h
  obtain ⟨h1, h2⟩ := Bool.and_eq_true_iff.mp h
  have h1 := Nat.le_of_ble_eq_true h1
  have h2 : ¬ i < 0 := fun z => by rw [decide_eq_true z] at h2; cases h2
  exact fun z => z.elim h2 (fun w => by omega)
theorem cx_R.pI {c m : am_M} (h : cx_R c m) (a j : Nat) (v : Int32) : cx_R (am_pI c a j v) (am_pI m a j v) := ⟨h.1, fun b hb => ⟨by
  funext y
  show (if b = a ∧ y = j then v else m.1 b y) = (if b = a ∧ y = j then v else c.1 b y)
  rw [(h.2 b hb).1], (h.2 b hb).2⟩⟩
theorem cx_R.pR {c m : am_M} (h : cx_R c m) (a j : Nat) (v : Option Nat) : cx_R (am_pR c a j v) (am_pR m a j v) := ⟨h.1, fun b hb => ⟨(h.2 b hb).1, (h.2 b hb).2.1, by
  funext y
  show (if b = a ∧ y = j then v else m.2.2.1 b y) = (if b = a ∧ y = j then v else c.2.2.1 b y)
  rw [(h.2 b hb).2.2.1], (h.2 b hb).2.2.2⟩⟩
theorem cx_R.al {c m : am_M} (h : cx_R c m) (kd : Nat × Nat) : cx_R (am_al c kd) (am_al m kd) := by
  have hn := h.1
  refine ⟨by show am_n m + 1 = am_n c + 1; rw [hn], fun b hb => ?_⟩
  obtain ⟨h1, h2, h3, h4⟩ := h.2 b hb
  refine ⟨funext fun y => ?_, funext fun y => ?_, funext fun y => ?_, ?_⟩
  · show (if b = am_n m + 3 then 0 else m.1 b y) = (if b = am_n c + 3 then 0 else c.1 b y)
    rw [hn, h1]
  · show (if b = am_n m + 3 then 0 else m.2.1 b y) = (if b = am_n c + 3 then 0 else c.2.1 b y)
    rw [hn, h2]
  · show (if b = am_n m + 3 then none else m.2.2.1 b y) = (if b = am_n c + 3 then none else c.2.2.1 b y)
    rw [hn, h3]
  · show (if b = am_n m + 3 then kd else m.2.2.2.1 b) = (if b = am_n c + 3 then kd else c.2.2.2.1 b)
    rw [hn, h4]
theorem cx_L.pI (m : am_M) {a : Nat} (ha : 3 ≤ a) (j : Nat) (v : Int32) : cx_L m (am_pI m a j v) := fun b hb => ⟨funext fun y => if_neg (fun z => by omega), rfl⟩
theorem cx_L.pR (m : am_M) (a j : Nat) (v : Option Nat) : cx_L m (am_pR m a j v) := fun b hb => ⟨rfl, rfl⟩
theorem cx_L.al (m : am_M) (kd : Nat × Nat) : cx_L m (am_al m kd) := fun b hb => ⟨funext fun y => if_neg (by omega), if_neg (by omega)⟩
def cx_P (ih : cx_F) : Prop := ∀ mi st pc L S c q, ih mi st pc L S c = some q → ∀ m, cx_R c m → ∀ (Q : Option Value → am_M → Prop) (k0 s0 : Nat), (∀ m', cx_R q.2.2.1 m' → cx_L m m' → am_WP am_Y0 mi k0 s0 q.2.2.2.1 q.1 q.2.1 m' Q) → am_WP am_Y0 mi (q.2.2.2.2.1 + k0) (q.2.2.2.2.2 + s0) pc L S m Q
theorem cx_call {ih : cx_F} (hi : cx_P ih) {mi st pc : Nat} {L : am_L} {S : List Value} {c : am_M} {mj np : Nat} {q : cx_T} (h : cx_c ih mi st pc L S c mj np = some q) {m : am_M} (hR : cx_R c m) (Q : Option Value → am_M → Prop) (k0 s0 : Nat) (hq : ∀ m', cx_R q.2.2.1 m' → cx_L m m' → am_WP am_Y0 mi k0 s0 q.2.2.2.1 q.1 q.2.1 m' Q) : am_cll mi (q.2.2.2.2.1 + k0) (q.2.2.2.2.2 + s0) pc L S m (am_kW am_Y0 mi Q) (am_cW am_Y0) mj np := by
  obtain ⟨h1, h⟩ := cx_ge h
  obtain ⟨p, h2, h⟩ := cx_be h
  obtain ⟨h3, h⟩ := cx_ge h
  obtain ⟨t, h4, rfl⟩ := cx_ae h
  obtain ⟨h5, h6⟩ := Bool.and_eq_true_iff.mp h3
  refine ⟨p.2.2.2.2.1, p.2.2.2.2.2, t.2.2.2.2.1 + k0, t.2.2.2.2.2 + s0, by dsimp only; omega, by dsimp only; omega, h1, ?_⟩
  have a := hi _ _ _ _ _ _ _ h2 m hR (fun r m1 => am_WP am_Y0 mi (t.2.2.2.2.1 + k0) (t.2.2.2.2.2 + s0) (pc + 3) L (am_pu r (S.drop np)) m1 Q) 0 0 (fun m' r1 l1 => ?_)
  · exact a
  · have e1 : p.2.1 = [] := by
      cases z : p.2.1 with
      | nil => rfl
      | cons x y => rw [z] at h5; cases h5
    rw [e1]
    unfold cx_rt at h6
    split at h6
    · rename_i l hc
      obtain ⟨h7, h8⟩ := Bool.and_eq_true_iff.mp h6
      refine am_so ?_
      unfold am_step
      rw [hc]
      show am_g (Nat.beq l 1) (_ ∧ am_g (Nat.beq (am_rtc mj) 0) _)
      rw [h7, h8]
      exact ⟨rfl, hi _ _ _ _ _ _ _ h4 m' r1 Q k0 s0 (fun m2 r2 l2 => hq m2 r2 (l1.tr l2))⟩
    · cases h6
