theorem ax_pd254 : ax_chM ax_m254 75 = true := by decide +kernel
theorem ax_pn254 : ax_PM ax_m254 := ax_chM_ok ax_pd254 (fun pc h => by show (bif Nat.blt pc 75 then _ else none) = none; rw [h]; rfl)
theorem ax_pd255 : ax_chM ax_m255 33 = true := by decide +kernel
theorem ax_pn255 : ax_PM ax_m255 := ax_chM_ok ax_pd255 (fun pc h => by show (bif Nat.blt pc 33 then _ else none) = none; rw [h]; rfl)
theorem ax_pd256 : ax_chM ax_m256 147 = true := by decide +kernel
theorem ax_pn256 : ax_PM ax_m256 := ax_chM_ok ax_pd256 (fun pc h => by show (bif Nat.blt pc 147 then _ else none) = none; rw [h]; rfl)
theorem ax_pd257 : ax_chM ax_m257 26 = true := by decide +kernel
theorem ax_pn257 : ax_PM ax_m257 := ax_chM_ok ax_pd257 (fun pc h => by show (bif Nat.blt pc 26 then _ else none) = none; rw [h]; rfl)
theorem ax_pd258 : ax_chM ax_m258 34 = true := by decide +kernel
theorem ax_pn258 : ax_PM ax_m258 := ax_chM_ok ax_pd258 (fun pc h => by show (bif Nat.blt pc 34 then _ else none) = none; rw [h]; rfl)
theorem ax_pd259 : ax_chM ax_m259 76 = true := by decide +kernel
theorem ax_pn259 : ax_PM ax_m259 := ax_chM_ok ax_pd259 (fun pc h => by show (bif Nat.blt pc 76 then _ else none) = none; rw [h]; rfl)
theorem ax_pd260 : ax_chM ax_m260 37 = true := by decide +kernel
theorem ax_pn260 : ax_PM ax_m260 := ax_chM_ok ax_pd260 (fun pc h => by show (bif Nat.blt pc 37 then _ else none) = none; rw [h]; rfl)
theorem ax_pd261 : ax_chM ax_m261 32 = true := by decide +kernel
theorem ax_pn261 : ax_PM ax_m261 := ax_chM_ok ax_pd261 (fun pc h => by show (bif Nat.blt pc 32 then _ else none) = none; rw [h]; rfl)
theorem ax_pd262 : ax_chM ax_m262 50 = true := by decide +kernel
theorem ax_pn262 : ax_PM ax_m262 := ax_chM_ok ax_pd262 (fun pc h => by show (bif Nat.blt pc 50 then _ else none) = none; rw [h]; rfl)
theorem ax_pd263 : ax_chM ax_m263 63 = true := by decide +kernel
theorem ax_pn263 : ax_PM ax_m263 := ax_chM_ok ax_pd263 (fun pc h => by show (bif Nat.blt pc 63 then _ else none) = none; rw [h]; rfl)
theorem ax_pd264 : ax_chM ax_m264 60 = true := by decide +kernel
theorem ax_pn264 : ax_PM ax_m264 := ax_chM_ok ax_pd264 (fun pc h => by show (bif Nat.blt pc 60 then _ else none) = none; rw [h]; rfl)
theorem ax_pd265 : ax_chM ax_m265 43 = true := by decide +kernel
theorem ax_pn265 : ax_PM ax_m265 := ax_chM_ok ax_pd265 (fun pc h => by show (bif Nat.blt pc 43 then _ else none) = none; rw [h]; rfl)
theorem ax_pd266 : ax_chM ax_m266 97 = true := by decide +kernel
theorem ax_pn266 : ax_PM ax_m266 := ax_chM_ok ax_pd266 (fun pc h => by show (bif Nat.blt pc 97 then _ else none) = none; rw [h]; rfl)
theorem ax_pd267 : ax_chM ax_m267 11 = true := by decide +kernel
theorem ax_pn267 : ax_PM ax_m267 := ax_chM_ok ax_pd267 (fun pc h => by show (bif Nat.blt pc 11 then _ else none) = none; rw [h]; rfl)
theorem ax_pd268 : ax_chM ax_m268 126 = true := by decide +kernel
theorem ax_pn268 : ax_PM ax_m268 := ax_chM_ok ax_pd268 (fun pc h => by show (bif Nat.blt pc 126 then _ else none) = none; rw [h]; rfl)
theorem ax_pd269 : ax_chM ax_m269 63 = true := by decide +kernel
theorem ax_pn269 : ax_PM ax_m269 := ax_chM_ok ax_pd269 (fun pc h => by show (bif Nat.blt pc 63 then _ else none) = none; rw [h]; rfl)
theorem ax_pd270 : ax_chM ax_m270 151 = true := by decide +kernel
theorem ax_pn270 : ax_PM ax_m270 := ax_chM_ok ax_pd270 (fun pc h => by show (bif Nat.blt pc 151 then _ else none) = none; rw [h]; rfl)
theorem ax_pd271 : ax_chM ax_m271 11 = true := by decide +kernel
theorem ax_pn271 : ax_PM ax_m271 := ax_chM_ok ax_pd271 (fun pc h => by show (bif Nat.blt pc 11 then _ else none) = none; rw [h]; rfl)
theorem ax_pd272 : ax_chM ax_m272 121 = true := by decide +kernel
theorem ax_pn272 : ax_PM ax_m272 := ax_chM_ok ax_pd272 (fun pc h => by show (bif Nat.blt pc 121 then _ else none) = none; rw [h]; rfl)
theorem ax_pd273 : ax_chM ax_m273 106 = true := by decide +kernel
theorem ax_pn273 : ax_PM ax_m273 := ax_chM_ok ax_pd273 (fun pc h => by show (bif Nat.blt pc 106 then _ else none) = none; rw [h]; rfl)
theorem ax_pd274 : ax_chM ax_m274 27 = true := by decide +kernel
theorem ax_pn274 : ax_PM ax_m274 := ax_chM_ok ax_pd274 (fun pc h => by show (bif Nat.blt pc 27 then _ else none) = none; rw [h]; rfl)
theorem ax_pd275 : ax_chM ax_m275 191 = true := by decide +kernel
theorem ax_pn275 : ax_PM ax_m275 := ax_chM_ok ax_pd275 (fun pc h => by show (bif Nat.blt pc 191 then _ else none) = none; rw [h]; rfl)
theorem ax_pd276 : ax_chM ax_m276 89 = true := by decide +kernel
theorem ax_pn276 : ax_PM ax_m276 := ax_chM_ok ax_pd276 (fun pc h => by show (bif Nat.blt pc 89 then _ else none) = none; rw [h]; rfl)
theorem ax_pd277 : ax_chM ax_m277 245 = true := by decide +kernel
theorem ax_pn277 : ax_PM ax_m277 := ax_chM_ok ax_pd277 (fun pc h => by show (bif Nat.blt pc 245 then _ else none) = none; rw [h]; rfl)
theorem ax_pd278 : ax_chM ax_m278 59 = true := by decide +kernel
theorem ax_pn278 : ax_PM ax_m278 := ax_chM_ok ax_pd278 (fun pc h => by show (bif Nat.blt pc 59 then _ else none) = none; rw [h]; rfl)
theorem ax_pd279 : ax_chM ax_m279 175 = true := by decide +kernel
theorem ax_pn279 : ax_PM ax_m279 := ax_chM_ok ax_pd279 (fun pc h => by show (bif Nat.blt pc 175 then _ else none) = none; rw [h]; rfl)
theorem ax_pd280 : ax_chM ax_m280 84 = true := by decide +kernel
theorem ax_pn280 : ax_PM ax_m280 := ax_chM_ok ax_pd280 (fun pc h => by show (bif Nat.blt pc 84 then _ else none) = none; rw [h]; rfl)
theorem ax_pd281 : ax_chM ax_m281 24 = true := by decide +kernel
theorem ax_pn281 : ax_PM ax_m281 := ax_chM_ok ax_pd281 (fun pc h => by show (bif Nat.blt pc 24 then _ else none) = none; rw [h]; rfl)
theorem ax_pd282 : ax_chM ax_m282 25 = true := by decide +kernel
theorem ax_pn282 : ax_PM ax_m282 := ax_chM_ok ax_pd282 (fun pc h => by show (bif Nat.blt pc 25 then _ else none) = none; rw [h]; rfl)
theorem ax_pd283 : ax_chM ax_m283 22 = true := by decide +kernel
theorem ax_pn283 : ax_PM ax_m283 := ax_chM_ok ax_pd283 (fun pc h => by show (bif Nat.blt pc 22 then _ else none) = none; rw [h]; rfl)
theorem ax_pd284 : ax_chM ax_m284 60 = true := by decide +kernel
theorem ax_pn284 : ax_PM ax_m284 := ax_chM_ok ax_pd284 (fun pc h => by show (bif Nat.blt pc 60 then _ else none) = none; rw [h]; rfl)
theorem ax_pd285 : ax_chM ax_m285 116 = true := by decide +kernel
theorem ax_pn285 : ax_PM ax_m285 := ax_chM_ok ax_pd285 (fun pc h => by show (bif Nat.blt pc 116 then _ else none) = none; rw [h]; rfl)
