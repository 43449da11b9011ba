/-! ===== every script ===== -/
theorem run_all : ∀ (L : Nat) (xs : Nat → Int32), L ≤ 4608 → am_WP am_Y0 231 600000 7302250 0 [some (.ref 2), none, none, none] [] (am_m0 L xs) (fun r _ => r = some (.int 1)) := fun L xs hL => boot (fun m hI hs => am_bd (by decide) (by decide) (L_loop hL 512 0 m hI hs (by omega) (by omega)))
