theorem ax_pd187 : ax_chM ax_m187 13 = true := by decide +kernel
theorem ax_pn187 : ax_PM ax_m187 := ax_chM_ok ax_pd187 (fun pc h => by show (bif Nat.blt pc 13 then _ else none) = none; rw [h]; rfl)
theorem ax_pd188 : ax_chM ax_m188 166 = true := by decide +kernel
theorem ax_pn188 : ax_PM ax_m188 := ax_chM_ok ax_pd188 (fun pc h => by show (bif Nat.blt pc 166 then _ else none) = none; rw [h]; rfl)
theorem ax_pd189 : ax_chM ax_m189 88 = true := by decide +kernel
theorem ax_pn189 : ax_PM ax_m189 := ax_chM_ok ax_pd189 (fun pc h => by show (bif Nat.blt pc 88 then _ else none) = none; rw [h]; rfl)
theorem ax_pd190 : ax_chM ax_m190 64 = true := by decide +kernel
theorem ax_pn190 : ax_PM ax_m190 := ax_chM_ok ax_pd190 (fun pc h => by show (bif Nat.blt pc 64 then _ else none) = none; rw [h]; rfl)
theorem ax_pd191 : ax_chM ax_m191 24 = true := by decide +kernel
theorem ax_pn191 : ax_PM ax_m191 := ax_chM_ok ax_pd191 (fun pc h => by show (bif Nat.blt pc 24 then _ else none) = none; rw [h]; rfl)
theorem ax_pd192 : ax_chM ax_m192 71 = true := by decide +kernel
theorem ax_pn192 : ax_PM ax_m192 := ax_chM_ok ax_pd192 (fun pc h => by show (bif Nat.blt pc 71 then _ else none) = none; rw [h]; rfl)
theorem ax_pd193 : ax_chM ax_m193 26 = true := by decide +kernel
theorem ax_pn193 : ax_PM ax_m193 := ax_chM_ok ax_pd193 (fun pc h => by show (bif Nat.blt pc 26 then _ else none) = none; rw [h]; rfl)
theorem ax_pd194 : ax_chM ax_m194 106 = true := by decide +kernel
theorem ax_pn194 : ax_PM ax_m194 := ax_chM_ok ax_pd194 (fun pc h => by show (bif Nat.blt pc 106 then _ else none) = none; rw [h]; rfl)
theorem ax_pd195 : ax_chM ax_m195 53 = true := by decide +kernel
theorem ax_pn195 : ax_PM ax_m195 := ax_chM_ok ax_pd195 (fun pc h => by show (bif Nat.blt pc 53 then _ else none) = none; rw [h]; rfl)
theorem ax_pd196 : ax_chM ax_m196 60 = true := by decide +kernel
theorem ax_pn196 : ax_PM ax_m196 := ax_chM_ok ax_pd196 (fun pc h => by show (bif Nat.blt pc 60 then _ else none) = none; rw [h]; rfl)
theorem ax_pd197 : ax_chM ax_m197 26 = true := by decide +kernel
theorem ax_pn197 : ax_PM ax_m197 := ax_chM_ok ax_pd197 (fun pc h => by show (bif Nat.blt pc 26 then _ else none) = none; rw [h]; rfl)
theorem ax_pd198 : ax_chM ax_m198 34 = true := by decide +kernel
theorem ax_pn198 : ax_PM ax_m198 := ax_chM_ok ax_pd198 (fun pc h => by show (bif Nat.blt pc 34 then _ else none) = none; rw [h]; rfl)
theorem ax_pd199 : ax_chM ax_m199 221 = true := by decide +kernel
theorem ax_pn199 : ax_PM ax_m199 := ax_chM_ok ax_pd199 (fun pc h => by show (bif Nat.blt pc 221 then _ else none) = none; rw [h]; rfl)
theorem ax_pd200 : ax_chM ax_m200 99 = true := by decide +kernel
theorem ax_pn200 : ax_PM ax_m200 := ax_chM_ok ax_pd200 (fun pc h => by show (bif Nat.blt pc 99 then _ else none) = none; rw [h]; rfl)
theorem ax_pd201 : ax_chM ax_m201 40 = true := by decide +kernel
theorem ax_pn201 : ax_PM ax_m201 := ax_chM_ok ax_pd201 (fun pc h => by show (bif Nat.blt pc 40 then _ else none) = none; rw [h]; rfl)
theorem ax_pd202 : ax_chM ax_m202 74 = true := by decide +kernel
theorem ax_pn202 : ax_PM ax_m202 := ax_chM_ok ax_pd202 (fun pc h => by show (bif Nat.blt pc 74 then _ else none) = none; rw [h]; rfl)
theorem ax_pd203 : ax_chM ax_m203 45 = true := by decide +kernel
theorem ax_pn203 : ax_PM ax_m203 := ax_chM_ok ax_pd203 (fun pc h => by show (bif Nat.blt pc 45 then _ else none) = none; rw [h]; rfl)
theorem ax_pd204 : ax_chM ax_m204 30 = true := by decide +kernel
theorem ax_pn204 : ax_PM ax_m204 := ax_chM_ok ax_pd204 (fun pc h => by show (bif Nat.blt pc 30 then _ else none) = none; rw [h]; rfl)
theorem ax_pd205 : ax_chM ax_m205 140 = true := by decide +kernel
theorem ax_pn205 : ax_PM ax_m205 := ax_chM_ok ax_pd205 (fun pc h => by show (bif Nat.blt pc 140 then _ else none) = none; rw [h]; rfl)
theorem ax_pd206 : ax_chM ax_m206 22 = true := by decide +kernel
theorem ax_pn206 : ax_PM ax_m206 := ax_chM_ok ax_pd206 (fun pc h => by show (bif Nat.blt pc 22 then _ else none) = none; rw [h]; rfl)
theorem ax_pd207 : ax_chM ax_m207 209 = true := by decide +kernel
theorem ax_pn207 : ax_PM ax_m207 := ax_chM_ok ax_pd207 (fun pc h => by show (bif Nat.blt pc 209 then _ else none) = none; rw [h]; rfl)
theorem ax_pd208 : ax_chM ax_m208 54 = true := by decide +kernel
theorem ax_pn208 : ax_PM ax_m208 := ax_chM_ok ax_pd208 (fun pc h => by show (bif Nat.blt pc 54 then _ else none) = none; rw [h]; rfl)
theorem ax_pd209 : ax_chM ax_m209 88 = true := by decide +kernel
theorem ax_pn209 : ax_PM ax_m209 := ax_chM_ok ax_pd209 (fun pc h => by show (bif Nat.blt pc 88 then _ else none) = none; rw [h]; rfl)
theorem ax_pd210 : ax_chM ax_m210 116 = true := by decide +kernel
theorem ax_pn210 : ax_PM ax_m210 := ax_chM_ok ax_pd210 (fun pc h => by show (bif Nat.blt pc 116 then _ else none) = none; rw [h]; rfl)
theorem ax_pd211 : ax_chM ax_m211 82 = true := by decide +kernel
theorem ax_pn211 : ax_PM ax_m211 := ax_chM_ok ax_pd211 (fun pc h => by show (bif Nat.blt pc 82 then _ else none) = none; rw [h]; rfl)
theorem ax_pd212 : ax_chM ax_m212 264 = true := by decide +kernel
theorem ax_pn212 : ax_PM ax_m212 := ax_chM_ok ax_pd212 (fun pc h => by show (bif Nat.blt pc 264 then _ else none) = none; rw [h]; rfl)
theorem ax_pd213 : ax_chM ax_m213 28 = true := by decide +kernel
theorem ax_pn213 : ax_PM ax_m213 := ax_chM_ok ax_pd213 (fun pc h => by show (bif Nat.blt pc 28 then _ else none) = none; rw [h]; rfl)
theorem ax_pd214 : ax_chM ax_m214 11 = true := by decide +kernel
theorem ax_pn214 : ax_PM ax_m214 := ax_chM_ok ax_pd214 (fun pc h => by show (bif Nat.blt pc 11 then _ else none) = none; rw [h]; rfl)
theorem ax_pd215 : ax_chM ax_m215 11 = true := by decide +kernel
theorem ax_pn215 : ax_PM ax_m215 := ax_chM_ok ax_pd215 (fun pc h => by show (bif Nat.blt pc 11 then _ else none) = none; rw [h]; rfl)
theorem ax_pd216 : ax_chM ax_m216 104 = true := by decide +kernel
theorem ax_pn216 : ax_PM ax_m216 := ax_chM_ok ax_pd216 (fun pc h => by show (bif Nat.blt pc 104 then _ else none) = none; rw [h]; rfl)
theorem ax_pd217 : ax_chM ax_m217 50 = true := by decide +kernel
theorem ax_pn217 : ax_PM ax_m217 := ax_chM_ok ax_pd217 (fun pc h => by show (bif Nat.blt pc 50 then _ else none) = none; rw [h]; rfl)
theorem ax_pd218 : ax_chM ax_m218 20 = true := by decide +kernel
theorem ax_pn218 : ax_PM ax_m218 := ax_chM_ok ax_pd218 (fun pc h => by show (bif Nat.blt pc 20 then _ else none) = none; rw [h]; rfl)
theorem ax_pd219 : ax_chM ax_m219 22 = true := by decide +kernel
theorem ax_pn219 : ax_PM ax_m219 := ax_chM_ok ax_pd219 (fun pc h => by show (bif Nat.blt pc 22 then _ else none) = none; rw [h]; rfl)
theorem ax_pd220 : ax_chM ax_m220 52 = true := by decide +kernel
theorem ax_pn220 : ax_PM ax_m220 := ax_chM_ok ax_pd220 (fun pc h => by show (bif Nat.blt pc 52 then _ else none) = none; rw [h]; rfl)
theorem ax_pd221 : ax_chM ax_m221 430 = true := by decide +kernel
theorem ax_pn221 : ax_PM ax_m221 := ax_chM_ok ax_pd221 (fun pc h => by show (bif Nat.blt pc 430 then _ else none) = none; rw [h]; rfl)
theorem ax_pd222 : ax_chM ax_m222 77 = true := by decide +kernel
theorem ax_pn222 : ax_PM ax_m222 := ax_chM_ok ax_pd222 (fun pc h => by show (bif Nat.blt pc 77 then _ else none) = none; rw [h]; rfl)
theorem ax_pd223 : ax_chM ax_m223 34 = true := by decide +kernel
theorem ax_pn223 : ax_PM ax_m223 := ax_chM_ok ax_pd223 (fun pc h => by show (bif Nat.blt pc 34 then _ else none) = none; rw [h]; rfl)
theorem ax_pd224 : ax_chM ax_m224 42 = true := by decide +kernel
theorem ax_pn224 : ax_PM ax_m224 := ax_chM_ok ax_pd224 (fun pc h => by show (bif Nat.blt pc 42 then _ else none) = none; rw [h]; rfl)
theorem ax_pd225 : ax_chM ax_m225 91 = true := by decide +kernel
theorem ax_pn225 : ax_PM ax_m225 := ax_chM_ok ax_pd225 (fun pc h => by show (bif Nat.blt pc 91 then _ else none) = none; rw [h]; rfl)
theorem ax_pd226 : ax_chM ax_m226 240 = true := by decide +kernel
theorem ax_pn226 : ax_PM ax_m226 := ax_chM_ok ax_pd226 (fun pc h => by show (bif Nat.blt pc 240 then _ else none) = none; rw [h]; rfl)
theorem ax_pd227 : ax_chM ax_m227 97 = true := by decide +kernel
theorem ax_pn227 : ax_PM ax_m227 := ax_chM_ok ax_pd227 (fun pc h => by show (bif Nat.blt pc 97 then _ else none) = none; rw [h]; rfl)
theorem ax_pd228 : ax_chM ax_m228 50 = true := by decide +kernel
theorem ax_pn228 : ax_PM ax_m228 := ax_chM_ok ax_pd228 (fun pc h => by show (bif Nat.blt pc 50 then _ else none) = none; rw [h]; rfl)
theorem ax_pd229 : ax_chM ax_m229 132 = true := by decide +kernel
theorem ax_pn229 : ax_PM ax_m229 := ax_chM_ok ax_pd229 (fun pc h => by show (bif Nat.blt pc 132 then _ else none) = none; rw [h]; rfl)
theorem ax_pd230 : ax_chM ax_m230 22 = true := by decide +kernel
theorem ax_pn230 : ax_PM ax_m230 := ax_chM_ok ax_pd230 (fun pc h => by show (bif Nat.blt pc 22 then _ else none) = none; rw [h]; rfl)
theorem ax_pd231 : ax_chM ax_m231 60 = true := by decide +kernel
theorem ax_pn231 : ax_PM ax_m231 := ax_chM_ok ax_pd231 (fun pc h => by show (bif Nat.blt pc 60 then _ else none) = none; rw [h]; rfl)
theorem ax_pd232 : ax_chM ax_m232 15 = true := by decide +kernel
theorem ax_pn232 : ax_PM ax_m232 := ax_chM_ok ax_pd232 (fun pc h => by show (bif Nat.blt pc 15 then _ else none) = none; rw [h]; rfl)
theorem ax_pd233 : ax_chM ax_m233 56 = true := by decide +kernel
theorem ax_pn233 : ax_PM ax_m233 := ax_chM_ok ax_pd233 (fun pc h => by show (bif Nat.blt pc 56 then _ else none) = none; rw [h]; rfl)
theorem ax_pd234 : ax_chM ax_m234 20 = true := by decide +kernel
theorem ax_pn234 : ax_PM ax_m234 := ax_chM_ok ax_pd234 (fun pc h => by show (bif Nat.blt pc 20 then _ else none) = none; rw [h]; rfl)
theorem ax_pd235 : ax_chM ax_m235 61 = true := by decide +kernel
theorem ax_pn235 : ax_PM ax_m235 := ax_chM_ok ax_pd235 (fun pc h => by show (bif Nat.blt pc 61 then _ else none) = none; rw [h]; rfl)
theorem ax_pd236 : ax_chM ax_m236 56 = true := by decide +kernel
theorem ax_pn236 : ax_PM ax_m236 := ax_chM_ok ax_pd236 (fun pc h => by show (bif Nat.blt pc 56 then _ else none) = none; rw [h]; rfl)
theorem ax_pd237 : ax_chM ax_m237 108 = true := by decide +kernel
theorem ax_pn237 : ax_PM ax_m237 := ax_chM_ok ax_pd237 (fun pc h => by show (bif Nat.blt pc 108 then _ else none) = none; rw [h]; rfl)
theorem ax_pd238 : ax_chM ax_m238 138 = true := by decide +kernel
theorem ax_pn238 : ax_PM ax_m238 := ax_chM_ok ax_pd238 (fun pc h => by show (bif Nat.blt pc 138 then _ else none) = none; rw [h]; rfl)
theorem ax_pd239 : ax_chM ax_m239 49 = true := by decide +kernel
theorem ax_pn239 : ax_PM ax_m239 := ax_chM_ok ax_pd239 (fun pc h => by show (bif Nat.blt pc 49 then _ else none) = none; rw [h]; rfl)
theorem ax_pd240 : ax_chM ax_m240 102 = true := by decide +kernel
theorem ax_pn240 : ax_PM ax_m240 := ax_chM_ok ax_pd240 (fun pc h => by show (bif Nat.blt pc 102 then _ else none) = none; rw [h]; rfl)
theorem ax_pd241 : ax_chM ax_m241 26 = true := by decide +kernel
theorem ax_pn241 : ax_PM ax_m241 := ax_chM_ok ax_pd241 (fun pc h => by show (bif Nat.blt pc 26 then _ else none) = none; rw [h]; rfl)
theorem ax_pd242 : ax_chM ax_m242 136 = true := by decide +kernel
theorem ax_pn242 : ax_PM ax_m242 := ax_chM_ok ax_pd242 (fun pc h => by show (bif Nat.blt pc 136 then _ else none) = none; rw [h]; rfl)
theorem ax_pd243 : ax_chM ax_m243 92 = true := by decide +kernel
theorem ax_pn243 : ax_PM ax_m243 := ax_chM_ok ax_pd243 (fun pc h => by show (bif Nat.blt pc 92 then _ else none) = none; rw [h]; rfl)
theorem ax_pd244 : ax_chM ax_m244 97 = true := by decide +kernel
theorem ax_pn244 : ax_PM ax_m244 := ax_chM_ok ax_pd244 (fun pc h => by show (bif Nat.blt pc 97 then _ else none) = none; rw [h]; rfl)
theorem ax_pd245 : ax_chM ax_m245 39 = true := by decide +kernel
theorem ax_pn245 : ax_PM ax_m245 := ax_chM_ok ax_pd245 (fun pc h => by show (bif Nat.blt pc 39 then _ else none) = none; rw [h]; rfl)
theorem ax_pd246 : ax_chM ax_m246 58 = true := by decide +kernel
theorem ax_pn246 : ax_PM ax_m246 := ax_chM_ok ax_pd246 (fun pc h => by show (bif Nat.blt pc 58 then _ else none) = none; rw [h]; rfl)
theorem ax_pd247 : ax_chM ax_m247 33 = true := by decide +kernel
theorem ax_pn247 : ax_PM ax_m247 := ax_chM_ok ax_pd247 (fun pc h => by show (bif Nat.blt pc 33 then _ else none) = none; rw [h]; rfl)
theorem ax_pd248 : ax_chM ax_m248 50 = true := by decide +kernel
theorem ax_pn248 : ax_PM ax_m248 := ax_chM_ok ax_pd248 (fun pc h => by show (bif Nat.blt pc 50 then _ else none) = none; rw [h]; rfl)
theorem ax_pd249 : ax_chM ax_m249 10 = true := by decide +kernel
theorem ax_pn249 : ax_PM ax_m249 := ax_chM_ok ax_pd249 (fun pc h => by show (bif Nat.blt pc 10 then _ else none) = none; rw [h]; rfl)
theorem ax_pd250 : ax_chM ax_m250 40 = true := by decide +kernel
theorem ax_pn250 : ax_PM ax_m250 := ax_chM_ok ax_pd250 (fun pc h => by show (bif Nat.blt pc 40 then _ else none) = none; rw [h]; rfl)
theorem ax_pd251 : ax_chM ax_m251 9 = true := by decide +kernel
theorem ax_pn251 : ax_PM ax_m251 := ax_chM_ok ax_pd251 (fun pc h => by show (bif Nat.blt pc 9 then _ else none) = none; rw [h]; rfl)
theorem ax_pd252 : ax_chM ax_m252 199 = true := by decide +kernel
theorem ax_pn252 : ax_PM ax_m252 := ax_chM_ok ax_pd252 (fun pc h => by show (bif Nat.blt pc 199 then _ else none) = none; rw [h]; rfl)
theorem ax_pd253 : ax_chM ax_m253 61 = true := by decide +kernel
theorem ax_pn253 : ax_PM ax_m253 := ax_chM_ok ax_pd253 (fun pc h => by show (bif Nat.blt pc 61 then _ else none) = none; rw [h]; rfl)
