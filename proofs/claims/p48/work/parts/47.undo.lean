/-! undo, type. -/
set_option maxRecDepth 10000 in
theorem char_nI : ∀ j : Nat, j < 127 → vp_nar .char (UInt32.toInt32 (Int32.toUInt32 (nI j) % 65536)) = nI j := by decide +kernel
