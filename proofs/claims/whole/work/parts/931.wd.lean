/-! ===== the wood of both ===== -/
theorem hd_is_cong {R C : Nat} {h h' : Nat → Nat → Bool} (e : ∀ i j, hd_ok R C i j → h i j = h' i j) : ∀ res, hd_is R C h res ↔ hd_is R C h' res
  | none => ⟨fun z i j k => by rw [← e i j k]; exact z i j k, fun z i j k => by rw [e i j k]; exact z i j k⟩
  | some (i, j) => ⟨fun ⟨a, b, c⟩ => ⟨a, by rw [← e i j a]; exact b, fun i' j' k l => c i' j' k (by rw [e i' j' k]; exact l)⟩, fun ⟨a, b, c⟩ => ⟨a, by rw [e i j a]; exact b, fun i' j' k l => c i' j' k (by rw [← e i' j' k]; exact l)⟩⟩
theorem fh_cg {th th' : Nat → Bool} {hg hg' : Nat → Int} (e1 : ∀ k, k < 256 → th k = th' k) (e2 : ∀ k, k < 256 → hg k = hg' k) {f t : Nat} (hf : f < 256) (ht : t < 256) (up : Int) : fh th hg f up t = fh th' hg' f up t := by
  unfold fh
  rw [e2 f hf, e2 t ht]
  congr 2
  funext res
  refine propext (hd_is_cong (fun i j ok => ?_) res)
  have b := hd_qb hf ht ok.1 ok.2.1
  unfold hd_h
  rw [e1 _ (show (hd_q f t i j).toNat < 256 by omega), e2 _ (show (hd_q f t i j).toNat < 256 by omega)]
/-- the wood is one -/
def Wd (m : am_M) : Prop := WO m ∧ MW m ∧ (∀ q, q < 256 → wb (m.2.1 8) q = mt m q) ∧ (∀ q, q < 256 → m.1 5 q = m.1 111 q) ∧ ∀ q, q < 256 → m.1 6 q = m.1 112 q
theorem mt_th {m : am_M} {r c : Int} (h1 : 0 ≤ r) (h2 : r ≤ 15) (h3 : 0 ≤ c) (h4 : c ≤ 15) : mt m (16 * r + c).toNat = mth m r c := by
  unfold mt
  rw [show (((16 * r + c).toNat / 16 : Nat) : Int) = r by omega, show (((16 * r + c).toNat % 16 : Nat) : Int) = c by omega]
theorem Wd.th {m : am_M} (h : Wd m) (r c : Int) : cth m r c = mth m r c := by
  by_cases b : 0 ≤ r ∧ r ≤ 15 ∧ 0 ≤ c ∧ c ≤ 15
  · have e : cth m r c = wb (m.2.1 8) (16 * r + c).toNat := by
      unfold cth
      cases z : wb (m.2.1 8) (16 * r + c).toNat
      · exact decide_eq_false (fun w => by have := w.2.2.2.2; cases this)
      · exact decide_eq_true ⟨b.1, b.2.1, b.2.2.1, b.2.2.2, rfl⟩
    rw [e, h.2.2.1 _ (by omega), mt_th b.1 b.2.1 b.2.2.1 b.2.2.2]
  · have e1 : cth m r c = false := decide_eq_false (fun w => b ⟨w.1, w.2.1, w.2.2.1, w.2.2.2.1⟩)
    rw [e1]
    cases z : mth m r c
    · rfl
    · exact absurd (mth_b h.2.1.2.2.2 z) b
theorem Wd.cfm {m : am_M} (h : Wd m) {f t : Nat} (hf : f < 256) (ht : t < 256) (up : Int) : cf m f up t = mf m f up t := by
  unfold cf mf
  exact fh_cg (fun k hk => h.2.2.1 k hk) (fun k hk => by rw [h.2.2.2.1 k hk]) hf ht up
theorem Wd.bs {m : am_M} (h : Wd m) (q k : Nat) : cbs m q k = mbd m q k := by
  unfold cbs mbd
  dsimp only
  rw [h.th]
theorem Wd.ed {m : am_M} (h : Wd m) (a b : Nat) : ced m a b = med m a b := by
  unfold ced med
  rw [h.bs, h.bs, h.bs, h.bs]
  by_cases c : a < 256
  · rw [h.2.2.1 a c]
  · rw [decide_eq_false c, Bool.false_and, Bool.false_and]
theorem Wd.w {m : am_M} (h : Wd m) {a b : Nat} (ha : a < 256) (hb : b < 256) : cw m b a = mw m b a := by
  unfold cw mw cwi mwi
  rw [h.2.2.2.1 a ha, h.2.2.2.1 b hb, h.2.2.2.2 a ha]
theorem Wd.tab {m : am_M} (h : Wd m) {g : Nat} {L : Nat → Nat} (t : tab (ced m) (cw m) g L) : tab (med m) (mw m) g L := by
  have g1 := mgr h.2.1
  refine ⟨t.1, fun a b e k => ?_, fun q k => ?_⟩
  · have x := g1 a b e
    rw [← h.w x.1 x.2.1]
    exact t.2.1 a b (by rw [h.ed]; exact e) k
  · rcases t.2.2 q k with z | ⟨a, h1, h2, h3⟩
    · exact Or.inl z
    · rw [h.ed] at h1
      have x := g1 a q h1
      refine Or.inr ⟨a, h1, h2, ?_⟩
      rw [← h.w x.1 x.2.1]
      exact h3
theorem nst_cong {bd bd' : Nat → Nat → Int} {w w' : Nat → Nat → Nat} {L : Nat → Nat} (h1 : bd = bd') (h2 : w = w') : nst bd w L = nst bd' w' L := by rw [h1, h2]
/-- the towers of both -/
def Tw (m : am_M) (n : Nat) : Prop := TI m n ∧ mtw m n ∧ ∀ t, t < n → m.1 10 t = m.1 113 t ∧ m.1 11 t = m.1 114 t
theorem Tw.b {m : am_M} {n : Nat} (h : Tw m n) {t : Nat} (ht : t < n) : bse m t = mbs m t ∧ abv m t = mab m t ∧ bse m t < 256 := by
  have x := h.2.2 t ht
  unfold mbs mab
  have y := (tw_b h.1.1 ht).2.1
  unfold bse abv at *
  rw [x.1, x.2]
  rw [x.1] at y
  exact ⟨rfl, rfl, y⟩
theorem Tw.hid {m : am_M} {n : Nat} (hW : Wd m) (h : Tw m n) (t r c : Int) : chid m n t r c = mhid m n t r c := by
  unfold chid mhid
  rw [hW.th]
  by_cases k : (inR t 0 ((n : Int) - 1) && mth m r c) = true
  · rw [if_pos k, if_pos k]
    obtain ⟨k1, k2⟩ := Bool.and_eq_true_iff.mp k
    have k1 := of_decide_eq_true k1
    have b := mth_b hW.2.1.2.2.2 k2
    have x := h.b (t := t.toNat) (by omega)
    rw [← x.1, ← x.2.1]
    exact hW.cfm x.2.2 (by omega) _
  · rw [if_neg k, if_neg k]
theorem Tw.see {m : am_M} {n : Nat} (hW : Wd m) (h : Tw m n) {t q : Nat} (ht : t < n) (hq : q < 256) : tsee m t q = (mt m q && mse m t q) := by
  have x := h.b ht
  unfold tsee csee mse
  rw [hW.2.2.1 q hq, hW.cfm x.2.2 hq, x.1, x.2.1]
theorem Tw.bl {m : am_M} {n : Nat} (hW : Wd m) (h : Tw m n) {q : Nat} (hq : q < 256) : ∀ k, k ≤ n → cbl m k q = mbl m k q
  | 0, _ => hW.2.2.1 q hq
  | k + 1, hk => by
    show (cbl m k q && !tsee m k q) = (mbl m k q && !mse m k q)
    rw [Tw.bl hW h hq k (by omega), h.see hW (by omega) hq]
    cases e : mt m q
    · have : mbl m k q = false := by
        have : ∀ k, mt m q = false → mbl m k q = false := by
          intro k z
          induction k with
          | zero => exact z
          | succ k ih => show (mbl m k q && _) = false; rw [ih]; rfl
        exact this k e
      rw [this]
      rfl
    · rw [Bool.true_and]
