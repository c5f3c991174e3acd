theorem ax_pd105 : ax_chM ax_m105 21 = true := by decide +kernel
theorem ax_pn105 : ax_PM ax_m105 := ax_chM_ok ax_pd105 (fun pc h => by show (bif Nat.blt pc 21 then _ else none) = none; rw [h]; rfl)
theorem ax_pd106 : ax_chM ax_m106 98 = true := by decide +kernel
theorem ax_pn106 : ax_PM ax_m106 := ax_chM_ok ax_pd106 (fun pc h => by show (bif Nat.blt pc 98 then _ else none) = none; rw [h]; rfl)
theorem ax_pd107 : ax_chM ax_m107 8 = true := by decide +kernel
theorem ax_pn107 : ax_PM ax_m107 := ax_chM_ok ax_pd107 (fun pc h => by show (bif Nat.blt pc 8 then _ else none) = none; rw [h]; rfl)
theorem ax_pd108 : ax_chM ax_m108 56 = true := by decide +kernel
theorem ax_pn108 : ax_PM ax_m108 := ax_chM_ok ax_pd108 (fun pc h => by show (bif Nat.blt pc 56 then _ else none) = none; rw [h]; rfl)
theorem ax_pd109 : ax_chM ax_m109 48 = true := by decide +kernel
theorem ax_pn109 : ax_PM ax_m109 := ax_chM_ok ax_pd109 (fun pc h => by show (bif Nat.blt pc 48 then _ else none) = none; rw [h]; rfl)
theorem ax_pd110 : ax_chM ax_m110 93 = true := by decide +kernel
theorem ax_pn110 : ax_PM ax_m110 := ax_chM_ok ax_pd110 (fun pc h => by show (bif Nat.blt pc 93 then _ else none) = none; rw [h]; rfl)
theorem ax_pd111 : ax_chM ax_m111 52 = true := by decide +kernel
theorem ax_pn111 : ax_PM ax_m111 := ax_chM_ok ax_pd111 (fun pc h => by show (bif Nat.blt pc 52 then _ else none) = none; rw [h]; rfl)
theorem ax_pd112 : ax_chM ax_m112 53 = true := by decide +kernel
theorem ax_pn112 : ax_PM ax_m112 := ax_chM_ok ax_pd112 (fun pc h => by show (bif Nat.blt pc 53 then _ else none) = none; rw [h]; rfl)
theorem ax_pd113 : ax_chM ax_m113 81 = true := by decide +kernel
theorem ax_pn113 : ax_PM ax_m113 := ax_chM_ok ax_pd113 (fun pc h => by show (bif Nat.blt pc 81 then _ else none) = none; rw [h]; rfl)
theorem ax_pd114 : ax_chM ax_m114 170 = true := by decide +kernel
theorem ax_pn114 : ax_PM ax_m114 := ax_chM_ok ax_pd114 (fun pc h => by show (bif Nat.blt pc 170 then _ else none) = none; rw [h]; rfl)
theorem ax_pd115 : ax_chM ax_m115 84 = true := by decide +kernel
theorem ax_pn115 : ax_PM ax_m115 := ax_chM_ok ax_pd115 (fun pc h => by show (bif Nat.blt pc 84 then _ else none) = none; rw [h]; rfl)
theorem ax_pd116 : ax_chM ax_m116 96 = true := by decide +kernel
theorem ax_pn116 : ax_PM ax_m116 := ax_chM_ok ax_pd116 (fun pc h => by show (bif Nat.blt pc 96 then _ else none) = none; rw [h]; rfl)
theorem ax_pd117 : ax_chM ax_m117 74 = true := by decide +kernel
theorem ax_pn117 : ax_PM ax_m117 := ax_chM_ok ax_pd117 (fun pc h => by show (bif Nat.blt pc 74 then _ else none) = none; rw [h]; rfl)
theorem ax_pd118 : ax_chM ax_m118 18 = true := by decide +kernel
theorem ax_pn118 : ax_PM ax_m118 := ax_chM_ok ax_pd118 (fun pc h => by show (bif Nat.blt pc 18 then _ else none) = none; rw [h]; rfl)
theorem ax_pd119 : ax_chM ax_m119 26 = true := by decide +kernel
theorem ax_pn119 : ax_PM ax_m119 := ax_chM_ok ax_pd119 (fun pc h => by show (bif Nat.blt pc 26 then _ else none) = none; rw [h]; rfl)
theorem ax_pd120 : ax_chM ax_m120 83 = true := by decide +kernel
theorem ax_pn120 : ax_PM ax_m120 := ax_chM_ok ax_pd120 (fun pc h => by show (bif Nat.blt pc 83 then _ else none) = none; rw [h]; rfl)
theorem ax_pd121 : ax_chM ax_m121 42 = true := by decide +kernel
theorem ax_pn121 : ax_PM ax_m121 := ax_chM_ok ax_pd121 (fun pc h => by show (bif Nat.blt pc 42 then _ else none) = none; rw [h]; rfl)
theorem ax_pd122 : ax_chM ax_m122 8 = true := by decide +kernel
theorem ax_pn122 : ax_PM ax_m122 := ax_chM_ok ax_pd122 (fun pc h => by show (bif Nat.blt pc 8 then _ else none) = none; rw [h]; rfl)
theorem ax_pd123 : ax_chM ax_m123 45 = true := by decide +kernel
theorem ax_pn123 : ax_PM ax_m123 := ax_chM_ok ax_pd123 (fun pc h => by show (bif Nat.blt pc 45 then _ else none) = none; rw [h]; rfl)
theorem ax_pd124 : ax_chM ax_m124 181 = true := by decide +kernel
theorem ax_pn124 : ax_PM ax_m124 := ax_chM_ok ax_pd124 (fun pc h => by show (bif Nat.blt pc 181 then _ else none) = none; rw [h]; rfl)
theorem ax_pd125 : ax_chM ax_m125 47 = true := by decide +kernel
theorem ax_pn125 : ax_PM ax_m125 := ax_chM_ok ax_pd125 (fun pc h => by show (bif Nat.blt pc 47 then _ else none) = none; rw [h]; rfl)
theorem ax_pd126 : ax_chM ax_m126 58 = true := by decide +kernel
theorem ax_pn126 : ax_PM ax_m126 := ax_chM_ok ax_pd126 (fun pc h => by show (bif Nat.blt pc 58 then _ else none) = none; rw [h]; rfl)
theorem ax_pd127 : ax_chM ax_m127 36 = true := by decide +kernel
theorem ax_pn127 : ax_PM ax_m127 := ax_chM_ok ax_pd127 (fun pc h => by show (bif Nat.blt pc 36 then _ else none) = none; rw [h]; rfl)
theorem ax_pd128 : ax_chM ax_m128 46 = true := by decide +kernel
theorem ax_pn128 : ax_PM ax_m128 := ax_chM_ok ax_pd128 (fun pc h => by show (bif Nat.blt pc 46 then _ else none) = none; rw [h]; rfl)
theorem ax_pd129 : ax_chM ax_m129 111 = true := by decide +kernel
theorem ax_pn129 : ax_PM ax_m129 := ax_chM_ok ax_pd129 (fun pc h => by show (bif Nat.blt pc 111 then _ else none) = none; rw [h]; rfl)
theorem ax_pd130 : ax_chM ax_m130 41 = true := by decide +kernel
theorem ax_pn130 : ax_PM ax_m130 := ax_chM_ok ax_pd130 (fun pc h => by show (bif Nat.blt pc 41 then _ else none) = none; rw [h]; rfl)
theorem ax_pd131 : ax_chM ax_m131 41 = true := by decide +kernel
theorem ax_pn131 : ax_PM ax_m131 := ax_chM_ok ax_pd131 (fun pc h => by show (bif Nat.blt pc 41 then _ else none) = none; rw [h]; rfl)
theorem ax_pd132 : ax_chM ax_m132 119 = true := by decide +kernel
theorem ax_pn132 : ax_PM ax_m132 := ax_chM_ok ax_pd132 (fun pc h => by show (bif Nat.blt pc 119 then _ else none) = none; rw [h]; rfl)
theorem ax_pd133 : ax_chM ax_m133 47 = true := by decide +kernel
theorem ax_pn133 : ax_PM ax_m133 := ax_chM_ok ax_pd133 (fun pc h => by show (bif Nat.blt pc 47 then _ else none) = none; rw [h]; rfl)
theorem ax_pd134 : ax_chM ax_m134 140 = true := by decide +kernel
theorem ax_pn134 : ax_PM ax_m134 := ax_chM_ok ax_pd134 (fun pc h => by show (bif Nat.blt pc 140 then _ else none) = none; rw [h]; rfl)
theorem ax_pd135 : ax_chM ax_m135 38 = true := by decide +kernel
theorem ax_pn135 : ax_PM ax_m135 := ax_chM_ok ax_pd135 (fun pc h => by show (bif Nat.blt pc 38 then _ else none) = none; rw [h]; rfl)
theorem ax_pd136 : ax_chM ax_m136 47 = true := by decide +kernel
theorem ax_pn136 : ax_PM ax_m136 := ax_chM_ok ax_pd136 (fun pc h => by show (bif Nat.blt pc 47 then _ else none) = none; rw [h]; rfl)
theorem ax_pd137 : ax_chM ax_m137 49 = true := by decide +kernel
theorem ax_pn137 : ax_PM ax_m137 := ax_chM_ok ax_pd137 (fun pc h => by show (bif Nat.blt pc 49 then _ else none) = none; rw [h]; rfl)
theorem ax_pd138 : ax_chM ax_m138 99 = true := by decide +kernel
theorem ax_pn138 : ax_PM ax_m138 := ax_chM_ok ax_pd138 (fun pc h => by show (bif Nat.blt pc 99 then _ else none) = none; rw [h]; rfl)
theorem ax_pd139 : ax_chM ax_m139 42 = true := by decide +kernel
theorem ax_pn139 : ax_PM ax_m139 := ax_chM_ok ax_pd139 (fun pc h => by show (bif Nat.blt pc 42 then _ else none) = none; rw [h]; rfl)
theorem ax_pd140 : ax_chM ax_m140 93 = true := by decide +kernel
theorem ax_pn140 : ax_PM ax_m140 := ax_chM_ok ax_pd140 (fun pc h => by show (bif Nat.blt pc 93 then _ else none) = none; rw [h]; rfl)
theorem ax_pd141 : ax_chM ax_m141 49 = true := by decide +kernel
theorem ax_pn141 : ax_PM ax_m141 := ax_chM_ok ax_pd141 (fun pc h => by show (bif Nat.blt pc 49 then _ else none) = none; rw [h]; rfl)
theorem ax_pd142 : ax_chM ax_m142 12 = true := by decide +kernel
theorem ax_pn142 : ax_PM ax_m142 := ax_chM_ok ax_pd142 (fun pc h => by show (bif Nat.blt pc 12 then _ else none) = none; rw [h]; rfl)
theorem ax_pd143 : ax_chM ax_m143 50 = true := by decide +kernel
theorem ax_pn143 : ax_PM ax_m143 := ax_chM_ok ax_pd143 (fun pc h => by show (bif Nat.blt pc 50 then _ else none) = none; rw [h]; rfl)
theorem ax_pd144 : ax_chM ax_m144 31 = true := by decide +kernel
theorem ax_pn144 : ax_PM ax_m144 := ax_chM_ok ax_pd144 (fun pc h => by show (bif Nat.blt pc 31 then _ else none) = none; rw [h]; rfl)
theorem ax_pd145 : ax_chM ax_m145 53 = true := by decide +kernel
theorem ax_pn145 : ax_PM ax_m145 := ax_chM_ok ax_pd145 (fun pc h => by show (bif Nat.blt pc 53 then _ else none) = none; rw [h]; rfl)
theorem ax_pd146 : ax_chM ax_m146 62 = true := by decide +kernel
theorem ax_pn146 : ax_PM ax_m146 := ax_chM_ok ax_pd146 (fun pc h => by show (bif Nat.blt pc 62 then _ else none) = none; rw [h]; rfl)
theorem ax_pd147 : ax_chM ax_m147 108 = true := by decide +kernel
theorem ax_pn147 : ax_PM ax_m147 := ax_chM_ok ax_pd147 (fun pc h => by show (bif Nat.blt pc 108 then _ else none) = none; rw [h]; rfl)
theorem ax_pd148 : ax_chM ax_m148 54 = true := by decide +kernel
theorem ax_pn148 : ax_PM ax_m148 := ax_chM_ok ax_pd148 (fun pc h => by show (bif Nat.blt pc 54 then _ else none) = none; rw [h]; rfl)
theorem ax_pd149 : ax_chM ax_m149 32 = true := by decide +kernel
theorem ax_pn149 : ax_PM ax_m149 := ax_chM_ok ax_pd149 (fun pc h => by show (bif Nat.blt pc 32 then _ else none) = none; rw [h]; rfl)
theorem ax_pd150 : ax_chM ax_m150 82 = true := by decide +kernel
theorem ax_pn150 : ax_PM ax_m150 := ax_chM_ok ax_pd150 (fun pc h => by show (bif Nat.blt pc 82 then _ else none) = none; rw [h]; rfl)
theorem ax_pd151 : ax_chM ax_m151 37 = true := by decide +kernel
theorem ax_pn151 : ax_PM ax_m151 := ax_chM_ok ax_pd151 (fun pc h => by show (bif Nat.blt pc 37 then _ else none) = none; rw [h]; rfl)
theorem ax_pd152 : ax_chM ax_m152 149 = true := by decide +kernel
theorem ax_pn152 : ax_PM ax_m152 := ax_chM_ok ax_pd152 (fun pc h => by show (bif Nat.blt pc 149 then _ else none) = none; rw [h]; rfl)
theorem ax_pd153 : ax_chM ax_m153 81 = true := by decide +kernel
theorem ax_pn153 : ax_PM ax_m153 := ax_chM_ok ax_pd153 (fun pc h => by show (bif Nat.blt pc 81 then _ else none) = none; rw [h]; rfl)
theorem ax_pd154 : ax_chM ax_m154 105 = true := by decide +kernel
theorem ax_pn154 : ax_PM ax_m154 := ax_chM_ok ax_pd154 (fun pc h => by show (bif Nat.blt pc 105 then _ else none) = none; rw [h]; rfl)
theorem ax_pd155 : ax_chM ax_m155 41 = true := by decide +kernel
theorem ax_pn155 : ax_PM ax_m155 := ax_chM_ok ax_pd155 (fun pc h => by show (bif Nat.blt pc 41 then _ else none) = none; rw [h]; rfl)
theorem ax_pd156 : ax_chM ax_m156 22 = true := by decide +kernel
theorem ax_pn156 : ax_PM ax_m156 := ax_chM_ok ax_pd156 (fun pc h => by show (bif Nat.blt pc 22 then _ else none) = none; rw [h]; rfl)
theorem ax_pd157 : ax_chM ax_m157 88 = true := by decide +kernel
theorem ax_pn157 : ax_PM ax_m157 := ax_chM_ok ax_pd157 (fun pc h => by show (bif Nat.blt pc 88 then _ else none) = none; rw [h]; rfl)
theorem ax_pd158 : ax_chM ax_m158 80 = true := by decide +kernel
theorem ax_pn158 : ax_PM ax_m158 := ax_chM_ok ax_pd158 (fun pc h => by show (bif Nat.blt pc 80 then _ else none) = none; rw [h]; rfl)
theorem ax_pd159 : ax_chM ax_m159 138 = true := by decide +kernel
theorem ax_pn159 : ax_PM ax_m159 := ax_chM_ok ax_pd159 (fun pc h => by show (bif Nat.blt pc 138 then _ else none) = none; rw [h]; rfl)
theorem ax_pd160 : ax_chM ax_m160 100 = true := by decide +kernel
theorem ax_pn160 : ax_PM ax_m160 := ax_chM_ok ax_pd160 (fun pc h => by show (bif Nat.blt pc 100 then _ else none) = none; rw [h]; rfl)
theorem ax_pd161 : ax_chM ax_m161 29 = true := by decide +kernel
theorem ax_pn161 : ax_PM ax_m161 := ax_chM_ok ax_pd161 (fun pc h => by show (bif Nat.blt pc 29 then _ else none) = none; rw [h]; rfl)
theorem ax_pd162 : ax_chM ax_m162 44 = true := by decide +kernel
theorem ax_pn162 : ax_PM ax_m162 := ax_chM_ok ax_pd162 (fun pc h => by show (bif Nat.blt pc 44 then _ else none) = none; rw [h]; rfl)
theorem ax_pd163 : ax_chM ax_m163 84 = true := by decide +kernel
theorem ax_pn163 : ax_PM ax_m163 := ax_chM_ok ax_pd163 (fun pc h => by show (bif Nat.blt pc 84 then _ else none) = none; rw [h]; rfl)
theorem ax_pd164 : ax_chM ax_m164 98 = true := by decide +kernel
theorem ax_pn164 : ax_PM ax_m164 := ax_chM_ok ax_pd164 (fun pc h => by show (bif Nat.blt pc 98 then _ else none) = none; rw [h]; rfl)
theorem ax_pd165 : ax_chM ax_m165 104 = true := by decide +kernel
theorem ax_pn165 : ax_PM ax_m165 := ax_chM_ok ax_pd165 (fun pc h => by show (bif Nat.blt pc 104 then _ else none) = none; rw [h]; rfl)
theorem ax_pd166 : ax_chM ax_m166 22 = true := by decide +kernel
theorem ax_pn166 : ax_PM ax_m166 := ax_chM_ok ax_pd166 (fun pc h => by show (bif Nat.blt pc 22 then _ else none) = none; rw [h]; rfl)
theorem ax_pd167 : ax_chM ax_m167 6 = true := by decide +kernel
theorem ax_pn167 : ax_PM ax_m167 := ax_chM_ok ax_pd167 (fun pc h => by show (bif Nat.blt pc 6 then _ else none) = none; rw [h]; rfl)
theorem ax_pd168 : ax_chM ax_m168 24 = true := by decide +kernel
theorem ax_pn168 : ax_PM ax_m168 := ax_chM_ok ax_pd168 (fun pc h => by show (bif Nat.blt pc 24 then _ else none) = none; rw [h]; rfl)
theorem ax_pd169 : ax_chM ax_m169 5 = true := by decide +kernel
theorem ax_pn169 : ax_PM ax_m169 := ax_chM_ok ax_pd169 (fun pc h => by show (bif Nat.blt pc 5 then _ else none) = none; rw [h]; rfl)
theorem ax_pd170 : ax_chM ax_m170 23 = true := by decide +kernel
theorem ax_pn170 : ax_PM ax_m170 := ax_chM_ok ax_pd170 (fun pc h => by show (bif Nat.blt pc 23 then _ else none) = none; rw [h]; rfl)
theorem ax_pd171 : ax_chM ax_m171 74 = true := by decide +kernel
theorem ax_pn171 : ax_PM ax_m171 := ax_chM_ok ax_pd171 (fun pc h => by show (bif Nat.blt pc 74 then _ else none) = none; rw [h]; rfl)
theorem ax_pd172 : ax_chM ax_m172 99 = true := by decide +kernel
theorem ax_pn172 : ax_PM ax_m172 := ax_chM_ok ax_pd172 (fun pc h => by show (bif Nat.blt pc 99 then _ else none) = none; rw [h]; rfl)
theorem ax_pd173 : ax_chM ax_m173 5 = true := by decide +kernel
theorem ax_pn173 : ax_PM ax_m173 := ax_chM_ok ax_pd173 (fun pc h => by show (bif Nat.blt pc 5 then _ else none) = none; rw [h]; rfl)
theorem ax_pd174 : ax_chM ax_m174 5 = true := by decide +kernel
theorem ax_pn174 : ax_PM ax_m174 := ax_chM_ok ax_pd174 (fun pc h => by show (bif Nat.blt pc 5 then _ else none) = none; rw [h]; rfl)
theorem ax_pd175 : ax_chM ax_m175 27 = true := by decide +kernel
theorem ax_pn175 : ax_PM ax_m175 := ax_chM_ok ax_pd175 (fun pc h => by show (bif Nat.blt pc 27 then _ else none) = none; rw [h]; rfl)
theorem ax_pd176 : ax_chM ax_m176 227 = true := by decide +kernel
theorem ax_pn176 : ax_PM ax_m176 := ax_chM_ok ax_pd176 (fun pc h => by show (bif Nat.blt pc 227 then _ else none) = none; rw [h]; rfl)
theorem ax_pd177 : ax_chM ax_m177 31 = true := by decide +kernel
theorem ax_pn177 : ax_PM ax_m177 := ax_chM_ok ax_pd177 (fun pc h => by show (bif Nat.blt pc 31 then _ else none) = none; rw [h]; rfl)
theorem ax_pd178 : ax_chM ax_m178 8 = true := by decide +kernel
theorem ax_pn178 : ax_PM ax_m178 := ax_chM_ok ax_pd178 (fun pc h => by show (bif Nat.blt pc 8 then _ else none) = none; rw [h]; rfl)
theorem ax_pd179 : ax_chM ax_m179 16 = true := by decide +kernel
theorem ax_pn179 : ax_PM ax_m179 := ax_chM_ok ax_pd179 (fun pc h => by show (bif Nat.blt pc 16 then _ else none) = none; rw [h]; rfl)
theorem ax_pd180 : ax_chM ax_m180 19 = true := by decide +kernel
theorem ax_pn180 : ax_PM ax_m180 := ax_chM_ok ax_pd180 (fun pc h => by show (bif Nat.blt pc 19 then _ else none) = none; rw [h]; rfl)
theorem ax_pd181 : ax_chM ax_m181 47 = true := by decide +kernel
theorem ax_pn181 : ax_PM ax_m181 := ax_chM_ok ax_pd181 (fun pc h => by show (bif Nat.blt pc 47 then _ else none) = none; rw [h]; rfl)
theorem ax_pd182 : ax_chM ax_m182 39 = true := by decide +kernel
theorem ax_pn182 : ax_PM ax_m182 := ax_chM_ok ax_pd182 (fun pc h => by show (bif Nat.blt pc 39 then _ else none) = none; rw [h]; rfl)
theorem ax_pd183 : ax_chM ax_m183 190 = true := by decide +kernel
theorem ax_pn183 : ax_PM ax_m183 := ax_chM_ok ax_pd183 (fun pc h => by show (bif Nat.blt pc 190 then _ else none) = none; rw [h]; rfl)
theorem ax_pd184 : ax_chM ax_m184 21 = true := by decide +kernel
theorem ax_pn184 : ax_PM ax_m184 := ax_chM_ok ax_pd184 (fun pc h => by show (bif Nat.blt pc 21 then _ else none) = none; rw [h]; rfl)
theorem ax_pd185 : ax_chM ax_m185 163 = true := by decide +kernel
theorem ax_pn185 : ax_PM ax_m185 := ax_chM_ok ax_pd185 (fun pc h => by show (bif Nat.blt pc 163 then _ else none) = none; rw [h]; rfl)
theorem ax_pd186 : ax_chM ax_m186 29 = true := by decide +kernel
theorem ax_pn186 : ax_PM ax_m186 := ax_chM_ok ax_pd186 (fun pc h => by show (bif Nat.blt pc 29 then _ else none) = none; rw [h]; rfl)
