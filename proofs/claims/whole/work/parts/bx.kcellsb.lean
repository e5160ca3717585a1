/-! The cells behind the second constructor -/
theorem kB_ev : k_ev k_fd k_rc k_mt 1000 10 kc_X11_init kc_X11_init (q_pad 1 (q_ent [.inr (.inr (0, 198))])) [] kB0 0 0 482 125965 = some kB := k_eqo_eq (by decide +kernel)
theorem kB_len : kB.length = 681 := by decide +kernel
theorem kF_zip : k_zip k_inv kF 0 = true := by decide +kernel
theorem k_iv0 : k_ivc 0 26 = true := by decide +kernel
theorem k_iv26 : k_ivc 26 14 = true := by decide +kernel
theorem k_iv40 : k_ivc 40 14 = true := by decide +kernel
theorem k_iv54 : k_ivc 54 1 = true := by decide +kernel
theorem k_iv55 : k_ivc 55 1 = true := by decide +kernel
theorem k_iv56 : k_ivc 56 1 = true := by decide +kernel
theorem k_iv57 : k_ivc 57 7 = true := by decide +kernel
theorem k_iv64 : k_ivc 64 1 = true := by decide +kernel
theorem k_iv65 : k_ivc 65 16 = true := by decide +kernel
