/-! at the end of the making all references are as they stay -/
set_option maxRecDepth 100000 in
theorem rEnd : ∀ c, c < 336 → (Nat.blt (K0 c) 13 || Nat.blt 24 (K0 c)) = true → ∀ i, i < Z0 c → rn_1200 (rn_1100 (fun _ _ => none)) c i = R0 c i := by decide +kernel
