/-! ===== the class: log, office ===== -/
def ctl (m : am_M) (i : Int) (e : Nat) (w : Int) (E : Nat) : Int32 := if w = 2 then m.1 e 2 else if w = 3 then (match am_gR YL m e 4 with | none => -1 | some s => iI (fb_ct (wb (m.2.1 (s + 1))) 256 : Int)) else if w = 4 then cfi m i else if w = 5 then m.1 e 3 else if w = 6 then iI (fb_ct (fun k => (fmk (cfp m i) E).testBit k) 32 : Int) else -1
theorem S_tell (m : am_M) (Q : Option Value → am_M → Prop) (hB : BK m) (hJB : JB m) (E : Nat) (hE : E ≤ 20) (h8 : m.1 38 8 = iI (E : Int)) (i : Int) (hbi : -2147483648 ≤ i ∧ i ≤ 2147483647) (e : Nat) (he : cent m i = some e) (w : Int) (hbw : -2147483648 ≤ w ∧ w ≤ 2147483647) (h : Q (some (.int (ctl m i e w E))) m) : am_WP YL 155 0 0 0 [some (.ref 3), some (.int (iI i)), some (.ref e), some (.int (iI w))] [] m Q := by
  have hen := cent_ok hB he
  refine B_X10_tellOfSighting_0 m Q _ e hen.1 _ ?_
  rw [iI_to (by omega) (by omega)]
  unfold ctl at h
  refine ⟨fun c => ?_, fun c => ?_, fun c => ?_, fun c => ?_, fun c => ?_, fun c => ?_⟩
  · rw [if_neg (by omega), if_neg (by omega), if_neg (by omega), if_neg (by omega), if_neg (by omega)] at h
    exact h
  · rw [if_pos c] at h
    exact h
  · rw [if_neg (by omega), if_pos c] at h
    cases hs : am_gR YL m e 4 with
    | none =>
      rw [hs] at h
      exact B_X10_tellOfSighting_45n m Q e hen.1 h
    | some s =>
      rw [hs] at h
      have sq := (hen.2.2.2 s hs).1
      refine B_X10_tellOfSighting_45r m Q e hen.1 s sq ?_
      rw [hs]
      exact B_X10_tellOfSighting_56r m Q s sq (S_size m _ s sq (B_X10_tellOfSighting_59 m Q _ h))
  · rw [if_neg (by omega), if_neg (by omega), if_pos c] at h
    exact S_fireOf m _ i hbi (B_X10_tellOfSighting_68 m Q _ h)
  · rw [if_neg (by omega), if_neg (by omega), if_neg (by omega), if_pos c] at h
    exact h
  · rw [if_neg (by omega), if_neg (by omega), if_neg (by omega), if_neg (by omega), if_pos c] at h
    have lt := fmk_lt (cfp m i) E
    have p20 : 2 ^ E ≤ 2 ^ 20 := Nat.pow_le_pow_right (by decide) hE
    exact S_fitting m _ hB hJB E hE h8 i hbi (B_X10_tellOfSighting_82 m Q _ (S_pop32 m _ _ (by omega) (B_X10_tellOfSighting_85 m Q _ h)))
def clog (m : am_M) (i w : Int) (E : Nat) : Int32 := if inR i 0 59 = false then -1 else match cent m i with
  | none => if w = 0 then 6 else -1
  | some e => if w = 0 then m.1 e 0 else if w = 1 then m.1 e 1 else if m.1 e 0 = 5 then -1 else ctl m i e w E
theorem S_clog (m : am_M) (Q : Option Value → am_M → Prop) (hB : BK m) (hJB : JB m) (E : Nat) (hE : E ≤ 20) (h8 : m.1 38 8 = iI (E : Int)) (i w : Int) (hbi : -2147483648 ≤ i ∧ i ≤ 2147483647) (hbw : -2147483648 ≤ w ∧ w ≤ 2147483647) (h : Q (some (.int (clog m i w E))) m) : am_WP YL 123 0 0 0 [some (.ref 3), some (.int (iI i)), some (.int (iI w)), none] [] m Q := by
  have e1 : iI i < (0 : Int32) ↔ i < 0 := iI_lt (b := 0) (by omega) (by omega) (by omega) (by omega)
  have e2 : iI i < (60 : Int32) ↔ i < 60 := iI_lt (b := 60) (by omega) (by omega) (by omega) (by omega)
  have w0 : iI w = (0 : Int32) ↔ w = 0 := iI_eq (b := 0) (by omega) (by omega) (by omega) (by omega)
  have w1 : iI w = (1 : Int32) ↔ w = 1 := iI_eq (b := 1) (by omega) (by omega) (by omega) (by omega)
  have no : ¬ (0 ≤ i ∧ i ≤ 59) → Q (some (.int (-1))) m := fun z => by
    unfold clog at h
    rw [if_pos (show inR i 0 59 = false from decide_eq_false z)] at h
    exact h
  refine B_X10_log_0 m Q _ _ ?_
  rw [e1, e2]
  refine ⟨fun z => no (by omega), fun z => ⟨fun y => S_entryAt m _ hB i hbi ?_, fun y => no (by omega)⟩⟩
  have ir : inR i 0 59 = true := decide_eq_true (by omega)
  unfold clog at h
  rw [if_neg (by rw [ir]; decide)] at h
  cases hc : cent m i with
  | none =>
    rw [hc] at h
    refine B_X10_log_20n m Q _ _ ?_
    rw [w0]
    dsimp only at h
    exact ⟨fun c => by rw [if_neg c] at h; exact h, fun c => by rw [if_pos c] at h; exact h⟩
  | some e =>
    rw [hc] at h
    dsimp only at h
    have hen := (cent_ok hB hc).1
    refine B_X10_log_20r m Q _ _ e hen ?_
    rw [w0, w1]
    refine ⟨fun c => ?_, fun c => by rw [if_pos c] at h; exact h⟩
    rw [if_neg c] at h
    refine ⟨fun d => ?_, fun d => by rw [if_pos d] at h; exact h⟩
    rw [if_neg d] at h
    refine S_eSight m _ e hen (B_X10_log_59 m Q _ _ e hen _ (bz (fun x => ?_) (fun x => ?_)))
    · have x : m.1 e 0 = 5 := by
        by_cases c : m.1 e 0 = 5
        · exact c
        · rw [decide_eq_false c] at x; cases x
      rw [if_pos x] at h
      exact h
    · have x : ¬ m.1 e 0 = 5 := fun c => by rw [decide_eq_true c] at x; cases x
      rw [if_neg x] at h
      exact S_tell m _ hB hJB E hE h8 i hbi e hc w hbw (B_X10_log_69 m Q _ h)
