/-! more blocks (wip/tools/gen_extra2.py) -/
set_option maxRecDepth 20000 in
theorem D_X8_push_0 (m : am_M) (Q : Option Value → am_M → Prop) (l1 : Int32) (h : ((l1 < 0) → (am_WP YL 95 0 0 61 [none, none] [] m Q)) ∧ ((¬ l1 < 0) → ((((256 : Int32) ≤ l1) → (am_WP YL 95 0 0 61 [none, none] [] m Q)) ∧ ((¬ (256 : Int32) ≤ l1) → ((vp_in l1 256) ∧ (((¬ (m.1 90 l1.toNatClampNeg) = 0) → (am_WP YL 95 0 0 61 [none, none] [] m Q)) ∧ (((m.1 90 l1.toNatClampNeg) = 0) → ((vp_in l1 256) ∧ (am_WP YL 95 0 0 27 [some (.ref 87), some (.int l1)] [] (am_pI m 90 l1.toNatClampNeg 1) Q))))))))) : am_WP YL 95 0 0 0 [some (.ref 87), some (.int l1)] [] m Q :=
  am_so (am_so (And.intro (fun q3 => am_wk [none, none] True.intro (h.1 q3)) (fun q3 => am_so (am_so (Exists.intro 256 (And.intro am_ks_256 (am_so (And.intro (fun q2 => am_wk [none, none] True.intro ((h.2 q3).1 q2)) (fun q2 => am_so (am_so (And.intro rfl (And.intro rfl (Exists.intro (some 90) (And.intro rfl (am_so (am_so (Exists.intro 256 (And.intro rfl (And.intro rfl (And.intro ((h.2 q3).2 q2).1 (am_so (And.intro (fun q1 => am_wk [none, none] True.intro ((((h.2 q3).2 q2).2).1 q1)) (fun q1 => am_so (am_so (And.intro rfl (And.intro rfl (Exists.intro (some 90) (And.intro rfl (am_so (am_so (Exists.intro 1 (And.intro am_ki_1 (am_so (Exists.intro 256 (And.intro rfl (And.intro rfl (And.intro ((((h.2 q3).2 q2).2).2 q1).1 (And.intro (Or.inr rfl) (((((h.2 q3).2 q2).2).2 q1).2)))))))))))))))))))))))))))))))))))))))
set_option maxRecDepth 20000 in
theorem D_X8_push_27 (m : am_M) (Q : Option Value → am_M → Prop) (l1 : Int32) (h : (vp_in ((m.1 87 5) &&& (255 : Int32)) 256) ∧ (am_WP YL 95 0 0 41 [some (.ref 87), none] [] (am_pI m 89 (((m.1 87 5) &&& (255 : Int32)).toNatClampNeg) l1) Q)) : am_WP YL 95 0 0 27 [some (.ref 87), some (.int l1)] [] m Q :=
  am_so (am_so (And.intro rfl (And.intro rfl (Exists.intro (some 89) (And.intro rfl (am_so (am_so (And.intro rfl (And.intro rfl (am_so (Exists.intro 255 (And.intro am_ks_255 (am_so (am_so (am_so (Exists.intro 256 (And.intro rfl (And.intro rfl (And.intro h.1 (am_wk [some (.ref 87), none] (And.intro rfl True.intro) h.2))))))))))))))))))))
set_option maxRecDepth 20000 in
theorem D_X8_push_41 (m : am_M) (Q : Option Value → am_M → Prop)  (h : am_WP YL 95 0 0 51 [some (.ref 87), none] [] (am_pI m 87 5 ((m.1 87 5) + (1 : Int32))) Q) : am_WP YL 95 0 0 41 [some (.ref 87), none] [] m Q :=
  am_so (am_so (And.intro rfl (am_so (And.intro rfl (And.intro rfl (am_so (Exists.intro 1 (And.intro am_ki_1 (am_so (am_so (And.intro rfl (And.intro rfl (And.intro rfl h)))))))))))))
set_option maxRecDepth 20000 in
theorem D_X8_push_51 (m : am_M) (Q : Option Value → am_M → Prop)  (h : am_WP YL 95 0 0 61 [none, none] [] (am_pI m 87 4 ((m.1 87 4) + (1 : Int32))) Q) : am_WP YL 95 0 0 51 [some (.ref 87), none] [] m Q :=
  am_so (am_so (And.intro rfl (am_so (And.intro rfl (And.intro rfl (am_so (Exists.intro 1 (And.intro am_ki_1 (am_so (am_so (And.intro rfl (And.intro rfl (And.intro rfl (am_wk [none, none] True.intro h))))))))))))))
set_option maxRecDepth 20000 in
theorem D_X8_push_61 (m : am_M) (Q : Option Value → am_M → Prop)  (h : Q none m) : am_WP YL 95 0 0 61 [none, none] [] m Q :=
  am_so (And.intro rfl h)
