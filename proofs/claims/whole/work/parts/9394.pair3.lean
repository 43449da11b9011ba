/-! ===== fewest, blinds, blind, best ===== -/
theorem P_fewest {m : am_M} (hI : Inv m) (l1 l2 : Int32) : Pr 132 [some (.ref 3), some (.int l1), some (.int l2), none, none] 203 [some (.ref 109), some (.int l1), some (.int l2), none, none, none, none, none, none, none] m := by
  obtain ⟨n, E, C, tp, sz, lt, i1, i2, i3, i4, i5, i6, i7, i8, i9⟩ := id hI
  have key : ∀ m1, Ar [102, 103, 104, 106] m m1 → Inv m1 ∧ msl m1 l1 l2 = msl m l1 l2 ∧ mON m1 (msl m l1 l2) = mON m (msl m l1 l2) ∧ ∀ i, mv m1 116 i = mv m 116 i := fun m1 ar => by
    have e1 : m1.1 115 = m.1 115 := ar.I (by decide)
    have e2 : m1.2.1 116 = m.2.1 116 := ar.J (by decide)
    refine ⟨hI.fr ar (by decide) (by decide) (fun f hf z => by simp only [List.mem_cons, List.not_mem_nil, or_false] at z; omega) (fun t ht z => by simp only [List.mem_cons, List.not_mem_nil, or_false] at z; omega) (by rw [ar.I (by decide)]) (by rw [ar.I (by decide)]) (by rw [ar.I (by decide)]) (fun k f hf => by rw [ar.I (by decide), ar.I (by decide)]; exact k f hf) (fun k j hj => by rw [ar.I (by decide), ar.I (by decide)]; exact k j hj), ?_, ?_, fun i => by unfold mv; rw [e2]⟩
    · funext i
      unfold msl msi
      rw [e1]
    · funext g
      unfold mON pON
      have a1 : (fun i j => mak m1 (brn (msl m l1 l2) 60 i) (brn (msl m l1 l2) 60 j)) = fun i j => mak m (brn (msl m l1 l2) 60 i) (brn (msl m l1 l2) 60 j) := by
        funext i j
        unfold mak
        rw [e1]
      have a2 : (fun j q => wb (mv m1 116 (brn (msl m l1 l2) 60 j)) q) = fun j q => wb (mv m 116 (brn (msl m l1 l2) 60 j)) q := by
        funext j q
        unfold mv
        rw [e2]
      rw [a1, a2]
  have nn := A_fewN i4 l1 l2
  refine S_cfewest m _ i4.bk i4.sg l1 l2 (fun m1 ar z => ?_) (fun m1 F ar n10 ne F0 F1 => ?_)
  · obtain ⟨j1, j2, j3, j4⟩ := key m1 ar
    refine S_mfewest m1 _ l1 l2 (fun m2 f2 _ => ⟨rfl, ⟨_, rfl⟩, j1.scr (f2.sub (by decide) (by decide))⟩) (fun m2 G f2 h10 hne _ _ => ?_)
    exfalso
    rw [j2] at h10 hne
    rcases nn.mp z with w | ⟨i, h1, h2, h3⟩
    · omega
    · obtain ⟨q, hq, k⟩ := hne i h1 h2
      rw [j4, h3 q hq] at k
      cases k
  · obtain ⟨j1, j2, j3, j4⟩ := key m1 ar
    refine S_mfewest m1 _ l1 l2 (fun m2 f2 z => ?_) (fun m2 G f2 h10 hne G0 G1 => ⟨?_, ⟨_, rfl⟩, j1.scr (f2.sub (by decide) (by decide))⟩)
    · exfalso
      rw [j2] at z
      have z' : 10 < fb_ct (msl m l1 l2) 60 ∨ ∃ i, i < 60 ∧ msl m l1 l2 i = true ∧ ∀ q, q < 256 → wb (mv m 116 i) q = false := by
        rcases z with z | ⟨i, h1, h2, h3⟩
        · exact Or.inl z
        · exact Or.inr ⟨i, h1, h2, fun q hq => by rw [← j4]; exact h3 q hq⟩
      rcases nn.mpr z' with w | ⟨i, h1, h2, h3⟩
      · omega
      · obtain ⟨q, hq, k⟩ := ne i h1 h2
        rw [h3 q hq] at k
        cases k
    · rw [j2, j3] at G1
      rw [j2, A_fewF i4 l1 l2 F0 G0 F1 G1]
