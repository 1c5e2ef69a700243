/-! what the tables say of the methods and the links (by program) -/
theorem tbS {w : Cond} (i : Nat) (h : (k2_sels lw_privs)[i]? = some w) (hg : goodWord w = true := by rfl) : w ∈ gtb := List.mem_filter.mpr ⟨List.mem_append_left _ (List.mem_of_getElem? h), hg⟩
theorem mlJ_max : ML nJ_max 2 := ⟨tb2 233 (by decide +kernel), tb0 14 (by decide +kernel), ⟨by decide +kernel, by decide +kernel, by decide +kernel⟩, by decide +kernel⟩
theorem stJ_max : Cond.static (nmT nJ_max) ∈ gtb := tb2 232 (by decide +kernel)
theorem mlJ_min : ML nJ_min 2 := ⟨tb1 207 (by decide +kernel), tb0 14 (by decide +kernel), ⟨by decide +kernel, by decide +kernel, by decide +kernel⟩, by decide +kernel⟩
theorem stJ_min : Cond.static (nmT nJ_min) ∈ gtb := tb1 206 (by decide +kernel)
theorem mlJ_maxL : ML nJ_maxL 2 := ⟨tb3 52 (by decide +kernel), tb0 14 (by decide +kernel), ⟨by decide +kernel, by decide +kernel, by decide +kernel⟩, by decide +kernel⟩
theorem stJ_maxL : Cond.static (nmT nJ_maxL) ∈ gtb := tb3 51 (by decide +kernel)
theorem mlJ_minL : ML nJ_minL 2 := ⟨tb3 49 (by decide +kernel), tb0 14 (by decide +kernel), ⟨by decide +kernel, by decide +kernel, by decide +kernel⟩, by decide +kernel⟩
theorem stJ_minL : Cond.static (nmT nJ_minL) ∈ gtb := tb3 48 (by decide +kernel)
theorem mlJ_abs : ML nJ_abs 1 := ⟨tb3 35 (by decide +kernel), tb0 14 (by decide +kernel), ⟨by decide +kernel, by decide +kernel, by decide +kernel⟩, by decide +kernel⟩
theorem stJ_abs : Cond.static (nmT nJ_abs) ∈ gtb := tb3 34 (by decide +kernel)
theorem mlJ_floorDiv : ML nJ_floorDiv 2 := ⟨tb3 41 (by decide +kernel), tb0 14 (by decide +kernel), ⟨by decide +kernel, by decide +kernel, by decide +kernel⟩, by decide +kernel⟩
theorem stJ_floorDiv : Cond.static (nmT nJ_floorDiv) ∈ gtb := tb3 40 (by decide +kernel)
theorem mlJ_bitCount : ML nJ_bitCount 1 := ⟨tb4 62 (by decide +kernel), tb0 20 (by decide +kernel), ⟨by decide +kernel, by decide +kernel, by decide +kernel⟩, by decide +kernel⟩
theorem stJ_bitCount : Cond.static (nmT nJ_bitCount) ∈ gtb := tb4 61 (by decide +kernel)
theorem mlJ_numberOfTrailingZeros : ML nJ_numberOfTrailingZeros 1 := ⟨tb4 194 (by decide +kernel), tb0 20 (by decide +kernel), ⟨by decide +kernel, by decide +kernel, by decide +kernel⟩, by decide +kernel⟩
theorem stJ_numberOfTrailingZeros : Cond.static (nmT nJ_numberOfTrailingZeros) ∈ gtb := tb4 193 (by decide +kernel)
theorem mlS_length : ML nS_length 0 := ⟨tb1 232 (by decide +kernel), tb0 15 (by decide +kernel), ⟨by decide +kernel, by decide +kernel, by decide +kernel⟩, by decide +kernel⟩
theorem imS_length : Cond.instanceMethod (nmT nS_length) ∈ gtb := tb1 230 (by decide +kernel)
theorem seS_length : Cond.selects (nmT nS_length).cls (nmT nS_length) (nmT nS_length) ∈ gtb := tb1 231 (by decide +kernel)
theorem mlS_coder : ML nS_coder 0 := ⟨tb1 236 (by decide +kernel), tb0 15 (by decide +kernel), ⟨by decide +kernel, by decide +kernel, by decide +kernel⟩, by decide +kernel⟩
theorem imS_coder : Cond.instanceMethod (nmT nS_coder) ∈ gtb := tb1 234 (by decide +kernel)
theorem seS_coder : Cond.selects (nmT nS_coder).cls (nmT nS_coder) (nmT nS_coder) ∈ gtb := tb1 235 (by decide +kernel)
theorem mlS_charAt : ML nS_charAt 1 := ⟨tb2 2 (by decide +kernel), tb0 15 (by decide +kernel), ⟨by decide +kernel, by decide +kernel, by decide +kernel⟩, by decide +kernel⟩
theorem imS_charAt : Cond.instanceMethod (nmT nS_charAt) ∈ gtb := tb2 0 (by decide +kernel)
theorem seS_charAt : Cond.selects (nmT nS_charAt).cls (nmT nS_charAt) (nmT nS_charAt) ∈ gtb := tb2 1 (by decide +kernel)
theorem mlS_isLatin1 : ML nS_isLatin1 0 := ⟨tb2 6 (by decide +kernel), tb0 15 (by decide +kernel), ⟨by decide +kernel, by decide +kernel, by decide +kernel⟩, by decide +kernel⟩
theorem imS_isLatin1 : Cond.instanceMethod (nmT nS_isLatin1) ∈ gtb := tb2 4 (by decide +kernel)
theorem seS_isLatin1 : Cond.selects (nmT nS_isLatin1).cls (nmT nS_isLatin1) (nmT nS_isLatin1) ∈ gtb := tb2 5 (by decide +kernel)
theorem mlS_checkIndex : ML nS_checkIndex 2 := ⟨tb2 12 (by decide +kernel), tb0 15 (by decide +kernel), ⟨by decide +kernel, by decide +kernel, by decide +kernel⟩, by decide +kernel⟩
theorem stS_checkIndex : Cond.static (nmT nS_checkIndex) ∈ gtb := tb2 11 (by decide +kernel)
theorem mlU_charAt : ML nU_charAt 2 := ⟨tb2 9 (by decide +kernel), tb0 16 (by decide +kernel), ⟨by decide +kernel, by decide +kernel, by decide +kernel⟩, by decide +kernel⟩
theorem stU_charAt : Cond.static (nmT nU_charAt) ∈ gtb := tb2 8 (by decide +kernel)
theorem mlP_checkIndex : ML nP_checkIndex 3 := ⟨tb2 17 (by decide +kernel), tb0 17 (by decide +kernel), ⟨by decide +kernel, by decide +kernel, by decide +kernel⟩, by decide +kernel⟩
theorem stP_checkIndex : Cond.static (nmT nP_checkIndex) ∈ gtb := tb2 16 (by decide +kernel)
theorem mlX_init : ML nX_init 0 := ⟨tb0 25 (by decide +kernel), tb0 1 (by decide +kernel), ⟨by decide +kernel, by decide +kernel, by decide +kernel⟩, by decide +kernel⟩
theorem imX_init : Cond.instanceMethod (nmT nX_init) ∈ gtb := tb0 24 (by decide +kernel)
theorem mlX_wind : ML nX_wind 3 := ⟨tb1 154 (by decide +kernel), tb0 1 (by decide +kernel), ⟨by decide +kernel, by decide +kernel, by decide +kernel⟩, by decide +kernel⟩
theorem imX_wind : Cond.instanceMethod (nmT nX_wind) ∈ gtb := tb1 152 (by decide +kernel)
theorem seX_wind : Cond.selects (nmT nX_wind).cls (nmT nX_wind) (nmT nX_wind) ∈ gtb := tb1 153 (by decide +kernel)
theorem mlX_village : ML nX_village 2 := ⟨tb1 165 (by decide +kernel), tb0 1 (by decide +kernel), ⟨by decide +kernel, by decide +kernel, by decide +kernel⟩, by decide +kernel⟩
theorem imX_village : Cond.instanceMethod (nmT nX_village) ∈ gtb := tb1 163 (by decide +kernel)
theorem seX_village : Cond.selects (nmT nX_village).cls (nmT nX_village) (nmT nX_village) ∈ gtb := tb1 164 (by decide +kernel)
theorem mlX_way : ML nX_way 3 := ⟨tb1 176 (by decide +kernel), tb0 1 (by decide +kernel), ⟨by decide +kernel, by decide +kernel, by decide +kernel⟩, by decide +kernel⟩
theorem imX_way : Cond.instanceMethod (nmT nX_way) ∈ gtb := tb1 174 (by decide +kernel)
theorem seX_way : Cond.selects (nmT nX_way).cls (nmT nX_way) (nmT nX_way) ∈ gtb := tb1 175 (by decide +kernel)
theorem mlX_feed : ML nX_feed 5 := ⟨tb1 188 (by decide +kernel), tb0 1 (by decide +kernel), ⟨by decide +kernel, by decide +kernel, by decide +kernel⟩, by decide +kernel⟩
theorem imX_feed : Cond.instanceMethod (nmT nX_feed) ∈ gtb := tb1 186 (by decide +kernel)
theorem seX_feed : Cond.selects (nmT nX_feed).cls (nmT nX_feed) (nmT nX_feed) ∈ gtb := tb1 187 (by decide +kernel)
theorem mlX_feedFour : ML nX_feedFour 1 := ⟨tb1 192 (by decide +kernel), tb0 1 (by decide +kernel), ⟨by decide +kernel, by decide +kernel, by decide +kernel⟩, by decide +kernel⟩
theorem imX_feedFour : Cond.instanceMethod (nmT nX_feedFour) ∈ gtb := tb1 191 (by decide +kernel)
theorem seX_feedFour : Cond.selects (nmT nX_feedFour).cls (nmT nX_feedFour) (nmT nX_feedFour) ∈ gtb := tbS 0 (by decide +kernel)
theorem mlX_end : ML nX_end 1 := ⟨tb1 196 (by decide +kernel), tb0 1 (by decide +kernel), ⟨by decide +kernel, by decide +kernel, by decide +kernel⟩, by decide +kernel⟩
theorem imX_end : Cond.instanceMethod (nmT nX_end) ∈ gtb := tb1 194 (by decide +kernel)
theorem seX_end : Cond.selects (nmT nX_end).cls (nmT nX_end) (nmT nX_end) ∈ gtb := tb1 195 (by decide +kernel)
theorem mlX_text : ML nX_text 0 := ⟨tb1 200 (by decide +kernel), tb0 1 (by decide +kernel), ⟨by decide +kernel, by decide +kernel, by decide +kernel⟩, by decide +kernel⟩
theorem imX_text : Cond.instanceMethod (nmT nX_text) ∈ gtb := tb1 198 (by decide +kernel)
theorem seX_text : Cond.selects (nmT nX_text).cls (nmT nX_text) (nmT nX_text) ∈ gtb := tb1 199 (by decide +kernel)
theorem mlX_fault : ML nX_fault 1 := ⟨tb2 173 (by decide +kernel), tb0 1 (by decide +kernel), ⟨by decide +kernel, by decide +kernel, by decide +kernel⟩, by decide +kernel⟩
theorem imX_fault : Cond.instanceMethod (nmT nX_fault) ∈ gtb := tb2 171 (by decide +kernel)
theorem seX_fault : Cond.selects (nmT nX_fault).cls (nmT nX_fault) (nmT nX_fault) ∈ gtb := tb2 172 (by decide +kernel)
theorem mlX_by : ML nX_by 1 := ⟨tb2 177 (by decide +kernel), tb0 1 (by decide +kernel), ⟨by decide +kernel, by decide +kernel, by decide +kernel⟩, by decide +kernel⟩
theorem imX_by : Cond.instanceMethod (nmT nX_by) ∈ gtb := tb2 175 (by decide +kernel)
theorem seX_by : Cond.selects (nmT nX_by).cls (nmT nX_by) (nmT nX_by) ∈ gtb := tb2 176 (by decide +kernel)
theorem mlX_pay : ML nX_pay 3 := ⟨tb2 185 (by decide +kernel), tb0 1 (by decide +kernel), ⟨by decide +kernel, by decide +kernel, by decide +kernel⟩, by decide +kernel⟩
theorem imX_pay : Cond.instanceMethod (nmT nX_pay) ∈ gtb := tb2 183 (by decide +kernel)
theorem seX_pay : Cond.selects (nmT nX_pay).cls (nmT nX_pay) (nmT nX_pay) ∈ gtb := tb2 184 (by decide +kernel)
theorem mlX_merge : ML nX_merge 2 := ⟨tb2 217 (by decide +kernel), tb0 1 (by decide +kernel), ⟨by decide +kernel, by decide +kernel, by decide +kernel⟩, by decide +kernel⟩
theorem imX_merge : Cond.instanceMethod (nmT nX_merge) ∈ gtb := tb2 215 (by decide +kernel)
theorem seX_merge : Cond.selects (nmT nX_merge).cls (nmT nX_merge) (nmT nX_merge) ∈ gtb := tb2 216 (by decide +kernel)
theorem mlX_day : ML nX_day 1 := ⟨tb2 237 (by decide +kernel), tb0 1 (by decide +kernel), ⟨by decide +kernel, by decide +kernel, by decide +kernel⟩, by decide +kernel⟩
theorem imX_day : Cond.instanceMethod (nmT nX_day) ∈ gtb := tb2 235 (by decide +kernel)
theorem seX_day : Cond.selects (nmT nX_day).cls (nmT nX_day) (nmT nX_day) ∈ gtb := tb2 236 (by decide +kernel)
theorem mlX_played : ML nX_played 1 := ⟨tb3 99 (by decide +kernel), tb0 1 (by decide +kernel), ⟨by decide +kernel, by decide +kernel, by decide +kernel⟩, by decide +kernel⟩
theorem imX_played : Cond.instanceMethod (nmT nX_played) ∈ gtb := tb3 97 (by decide +kernel)
theorem seX_played : Cond.selects (nmT nX_played).cls (nmT nX_played) (nmT nX_played) ∈ gtb := tb3 98 (by decide +kernel)
theorem mlX_years : ML nX_years 2 := ⟨tb3 118 (by decide +kernel), tb0 1 (by decide +kernel), ⟨by decide +kernel, by decide +kernel, by decide +kernel⟩, by decide +kernel⟩
theorem imX_years : Cond.instanceMethod (nmT nX_years) ∈ gtb := tb3 116 (by decide +kernel)
theorem seX_years : Cond.selects (nmT nX_years).cls (nmT nX_years) (nmT nX_years) ∈ gtb := tb3 117 (by decide +kernel)
theorem mlX_undo : ML nX_undo 0 := ⟨tb3 134 (by decide +kernel), tb0 1 (by decide +kernel), ⟨by decide +kernel, by decide +kernel, by decide +kernel⟩, by decide +kernel⟩
theorem imX_undo : Cond.instanceMethod (nmT nX_undo) ∈ gtb := tb3 132 (by decide +kernel)
theorem seX_undo : Cond.selects (nmT nX_undo).cls (nmT nX_undo) (nmT nX_undo) ∈ gtb := tb3 133 (by decide +kernel)
theorem mlX_ofWind : ML nX_ofWind 2 := ⟨tb3 142 (by decide +kernel), tb0 1 (by decide +kernel), ⟨by decide +kernel, by decide +kernel, by decide +kernel⟩, by decide +kernel⟩
theorem imX_ofWind : Cond.instanceMethod (nmT nX_ofWind) ∈ gtb := tb3 140 (by decide +kernel)
theorem seX_ofWind : Cond.selects (nmT nX_ofWind).cls (nmT nX_ofWind) (nmT nX_ofWind) ∈ gtb := tb3 141 (by decide +kernel)
theorem mlX_ofVillage : ML nX_ofVillage 2 := ⟨tb3 150 (by decide +kernel), tb0 1 (by decide +kernel), ⟨by decide +kernel, by decide +kernel, by decide +kernel⟩, by decide +kernel⟩
theorem imX_ofVillage : Cond.instanceMethod (nmT nX_ofVillage) ∈ gtb := tb3 148 (by decide +kernel)
theorem seX_ofVillage : Cond.selects (nmT nX_ofVillage).cls (nmT nX_ofVillage) (nmT nX_ofVillage) ∈ gtb := tb3 149 (by decide +kernel)
theorem mlX_takes : ML nX_takes 3 := ⟨tb3 156 (by decide +kernel), tb0 1 (by decide +kernel), ⟨by decide +kernel, by decide +kernel, by decide +kernel⟩, by decide +kernel⟩
theorem imX_takes : Cond.instanceMethod (nmT nX_takes) ∈ gtb := tb3 154 (by decide +kernel)
theorem seX_takes : Cond.selects (nmT nX_takes).cls (nmT nX_takes) (nmT nX_takes) ∈ gtb := tb3 155 (by decide +kernel)
theorem mlX_catches : ML nX_catches 3 := ⟨tb3 164 (by decide +kernel), tb0 1 (by decide +kernel), ⟨by decide +kernel, by decide +kernel, by decide +kernel⟩, by decide +kernel⟩
theorem imX_catches : Cond.instanceMethod (nmT nX_catches) ∈ gtb := tb3 162 (by decide +kernel)
theorem seX_catches : Cond.selects (nmT nX_catches).cls (nmT nX_catches) (nmT nX_catches) ∈ gtb := tb3 163 (by decide +kernel)
theorem mlX_isForce : ML nX_isForce 1 := ⟨tb3 159 (by decide +kernel), tb0 1 (by decide +kernel), ⟨by decide +kernel, by decide +kernel, by decide +kernel⟩, by decide +kernel⟩
theorem stX_isForce : Cond.static (nmT nX_isForce) ∈ gtb := tb3 158 (by decide +kernel)
theorem mlX_isFar : ML nX_isFar 1 := ⟨tb3 190 (by decide +kernel), tb0 1 (by decide +kernel), ⟨by decide +kernel, by decide +kernel, by decide +kernel⟩, by decide +kernel⟩
theorem stX_isFar : Cond.static (nmT nX_isFar) ∈ gtb := tb3 189 (by decide +kernel)
theorem mlX_is : ML nX_is 1 := ⟨tb3 168 (by decide +kernel), tb0 1 (by decide +kernel), ⟨by decide +kernel, by decide +kernel, by decide +kernel⟩, by decide +kernel⟩
theorem imX_is : Cond.instanceMethod (nmT nX_is) ∈ gtb := tb3 166 (by decide +kernel)
theorem seX_is : Cond.selects (nmT nX_is).cls (nmT nX_is) (nmT nX_is) ∈ gtb := tb3 167 (by decide +kernel)
theorem mlX_book : ML nX_book 2 := ⟨tb3 172 (by decide +kernel), tb0 1 (by decide +kernel), ⟨by decide +kernel, by decide +kernel, by decide +kernel⟩, by decide +kernel⟩
theorem imX_book : Cond.instanceMethod (nmT nX_book) ∈ gtb := tb3 170 (by decide +kernel)
theorem seX_book : Cond.selects (nmT nX_book).cls (nmT nX_book) (nmT nX_book) ∈ gtb := tb3 171 (by decide +kernel)
theorem mlX_foretold : ML nX_foretold 1 := ⟨tb3 187 (by decide +kernel), tb0 1 (by decide +kernel), ⟨by decide +kernel, by decide +kernel, by decide +kernel⟩, by decide +kernel⟩
theorem imX_foretold : Cond.instanceMethod (nmT nX_foretold) ∈ gtb := tb3 185 (by decide +kernel)
theorem seX_foretold : Cond.selects (nmT nX_foretold).cls (nmT nX_foretold) (nmT nX_foretold) ∈ gtb := tb3 186 (by decide +kernel)
theorem mlX_purse : ML nX_purse 2 := ⟨tb3 219 (by decide +kernel), tb0 1 (by decide +kernel), ⟨by decide +kernel, by decide +kernel, by decide +kernel⟩, by decide +kernel⟩
theorem imX_purse : Cond.instanceMethod (nmT nX_purse) ∈ gtb := tb3 217 (by decide +kernel)
theorem seX_purse : Cond.selects (nmT nX_purse).cls (nmT nX_purse) (nmT nX_purse) ∈ gtb := tb3 218 (by decide +kernel)
theorem mlX_owed : ML nX_owed 2 := ⟨tb3 227 (by decide +kernel), tb0 1 (by decide +kernel), ⟨by decide +kernel, by decide +kernel, by decide +kernel⟩, by decide +kernel⟩
theorem imX_owed : Cond.instanceMethod (nmT nX_owed) ∈ gtb := tb3 225 (by decide +kernel)
theorem seX_owed : Cond.selects (nmT nX_owed).cls (nmT nX_owed) (nmT nX_owed) ∈ gtb := tb3 226 (by decide +kernel)
theorem mlX_arrears : ML nX_arrears 0 := ⟨tb3 231 (by decide +kernel), tb0 1 (by decide +kernel), ⟨by decide +kernel, by decide +kernel, by decide +kernel⟩, by decide +kernel⟩
theorem imX_arrears : Cond.instanceMethod (nmT nX_arrears) ∈ gtb := tb3 229 (by decide +kernel)
theorem seX_arrears : Cond.selects (nmT nX_arrears).cls (nmT nX_arrears) (nmT nX_arrears) ∈ gtb := tb3 230 (by decide +kernel)
theorem mlX_broke : ML nX_broke 1 := ⟨tb4 12 (by decide +kernel), tb0 1 (by decide +kernel), ⟨by decide +kernel, by decide +kernel, by decide +kernel⟩, by decide +kernel⟩
theorem imX_broke : Cond.instanceMethod (nmT nX_broke) ∈ gtb := tb4 10 (by decide +kernel)
theorem seX_broke : Cond.selects (nmT nX_broke).cls (nmT nX_broke) (nmT nX_broke) ∈ gtb := tb4 11 (by decide +kernel)
theorem mlX_whose : ML nX_whose 1 := ⟨tb4 20 (by decide +kernel), tb0 1 (by decide +kernel), ⟨by decide +kernel, by decide +kernel, by decide +kernel⟩, by decide +kernel⟩
theorem imX_whose : Cond.instanceMethod (nmT nX_whose) ∈ gtb := tb4 18 (by decide +kernel)
theorem seX_whose : Cond.selects (nmT nX_whose).cls (nmT nX_whose) (nmT nX_whose) ∈ gtb := tb4 19 (by decide +kernel)
theorem mlX_odds : ML nX_odds 3 := ⟨tb4 28 (by decide +kernel), tb0 1 (by decide +kernel), ⟨by decide +kernel, by decide +kernel, by decide +kernel⟩, by decide +kernel⟩
theorem imX_odds : Cond.instanceMethod (nmT nX_odds) ∈ gtb := tb4 26 (by decide +kernel)
theorem seX_odds : Cond.selects (nmT nX_odds).cls (nmT nX_odds) (nmT nX_odds) ∈ gtb := tb4 27 (by decide +kernel)
theorem mlX_least : ML nX_least 3 := ⟨tb4 43 (by decide +kernel), tb0 1 (by decide +kernel), ⟨by decide +kernel, by decide +kernel, by decide +kernel⟩, by decide +kernel⟩
theorem imX_least : Cond.instanceMethod (nmT nX_least) ∈ gtb := tb4 41 (by decide +kernel)
theorem seX_least : Cond.selects (nmT nX_least).cls (nmT nX_least) (nmT nX_least) ∈ gtb := tb4 42 (by decide +kernel)
theorem mlX_share : ML nX_share 5 := ⟨tb4 59 (by decide +kernel), tb0 1 (by decide +kernel), ⟨by decide +kernel, by decide +kernel, by decide +kernel⟩, by decide +kernel⟩
theorem imX_share : Cond.instanceMethod (nmT nX_share) ∈ gtb := tb4 57 (by decide +kernel)
theorem seX_share : Cond.selects (nmT nX_share).cls (nmT nX_share) (nmT nX_share) ∈ gtb := tb4 58 (by decide +kernel)
theorem mlX_voyage : ML nX_voyage 3 := ⟨tb4 85 (by decide +kernel), tb0 1 (by decide +kernel), ⟨by decide +kernel, by decide +kernel, by decide +kernel⟩, by decide +kernel⟩
theorem imX_voyage : Cond.instanceMethod (nmT nX_voyage) ∈ gtb := tb4 83 (by decide +kernel)
theorem seX_voyage : Cond.selects (nmT nX_voyage).cls (nmT nX_voyage) (nmT nX_voyage) ∈ gtb := tb4 84 (by decide +kernel)
theorem mlX_took : ML nX_took 2 := ⟨tb4 117 (by decide +kernel), tb0 1 (by decide +kernel), ⟨by decide +kernel, by decide +kernel, by decide +kernel⟩, by decide +kernel⟩
theorem imX_took : Cond.instanceMethod (nmT nX_took) ∈ gtb := tb4 115 (by decide +kernel)
theorem seX_took : Cond.selects (nmT nX_took).cls (nmT nX_took) (nmT nX_took) ∈ gtb := tb4 116 (by decide +kernel)
theorem mlX_whoseWind : ML nX_whoseWind 0 := ⟨tb4 121 (by decide +kernel), tb0 1 (by decide +kernel), ⟨by decide +kernel, by decide +kernel, by decide +kernel⟩, by decide +kernel⟩
theorem imX_whoseWind : Cond.instanceMethod (nmT nX_whoseWind) ∈ gtb := tb4 119 (by decide +kernel)
theorem seX_whoseWind : Cond.selects (nmT nX_whoseWind).cls (nmT nX_whoseWind) (nmT nX_whoseWind) ∈ gtb := tb4 120 (by decide +kernel)
theorem mlX_strengths : ML nX_strengths 1 := ⟨tb4 137 (by decide +kernel), tb0 1 (by decide +kernel), ⟨by decide +kernel, by decide +kernel, by decide +kernel⟩, by decide +kernel⟩
theorem imX_strengths : Cond.instanceMethod (nmT nX_strengths) ∈ gtb := tb4 135 (by decide +kernel)
theorem seX_strengths : Cond.selects (nmT nX_strengths).cls (nmT nX_strengths) (nmT nX_strengths) ∈ gtb := tb4 136 (by decide +kernel)
theorem mlX_vane : ML nX_vane 0 := ⟨tb4 142 (by decide +kernel), tb0 1 (by decide +kernel), ⟨by decide +kernel, by decide +kernel, by decide +kernel⟩, by decide +kernel⟩
theorem imX_vane : Cond.instanceMethod (nmT nX_vane) ∈ gtb := tb4 140 (by decide +kernel)
theorem seX_vane : Cond.selects (nmT nX_vane).cls (nmT nX_vane) (nmT nX_vane) ∈ gtb := tb4 141 (by decide +kernel)
theorem mlX_sail : ML nX_sail 1 := ⟨tb4 158 (by decide +kernel), tb0 1 (by decide +kernel), ⟨by decide +kernel, by decide +kernel, by decide +kernel⟩, by decide +kernel⟩
theorem imX_sail : Cond.instanceMethod (nmT nX_sail) ∈ gtb := tb4 156 (by decide +kernel)
theorem seX_sail : Cond.selects (nmT nX_sail).cls (nmT nX_sail) (nmT nX_sail) ∈ gtb := tb4 157 (by decide +kernel)
theorem mlX_sails : ML nX_sails 2 := ⟨tb4 162 (by decide +kernel), tb0 1 (by decide +kernel), ⟨by decide +kernel, by decide +kernel, by decide +kernel⟩, by decide +kernel⟩
theorem imX_sails : Cond.instanceMethod (nmT nX_sails) ∈ gtb := tb4 160 (by decide +kernel)
theorem seX_sails : Cond.selects (nmT nX_sails).cls (nmT nX_sails) (nmT nX_sails) ∈ gtb := tb4 161 (by decide +kernel)
theorem mlX_sure : ML nX_sure 3 := ⟨tb4 186 (by decide +kernel), tb0 1 (by decide +kernel), ⟨by decide +kernel, by decide +kernel, by decide +kernel⟩, by decide +kernel⟩
theorem imX_sure : Cond.instanceMethod (nmT nX_sure) ∈ gtb := tb4 184 (by decide +kernel)
theorem seX_sure : Cond.selects (nmT nX_sure).cls (nmT nX_sure) (nmT nX_sure) ∈ gtb := tb4 185 (by decide +kernel)
theorem mlX_kind : ML nX_kind 1 := ⟨tb4 199 (by decide +kernel), tb0 1 (by decide +kernel), ⟨by decide +kernel, by decide +kernel, by decide +kernel⟩, by decide +kernel⟩
theorem imX_kind : Cond.instanceMethod (nmT nX_kind) ∈ gtb := tb4 197 (by decide +kernel)
theorem seX_kind : Cond.selects (nmT nX_kind).cls (nmT nX_kind) (nmT nX_kind) ∈ gtb := tb4 198 (by decide +kernel)
theorem mlX_inKind : ML nX_inKind 2 := ⟨tb4 203 (by decide +kernel), tb0 1 (by decide +kernel), ⟨by decide +kernel, by decide +kernel, by decide +kernel⟩, by decide +kernel⟩
theorem imX_inKind : Cond.instanceMethod (nmT nX_inKind) ∈ gtb := tb4 201 (by decide +kernel)
theorem seX_inKind : Cond.selects (nmT nX_inKind).cls (nmT nX_inKind) (nmT nX_inKind) ∈ gtb := tb4 202 (by decide +kernel)
theorem mlX_calms : ML nX_calms 2 := ⟨tb4 215 (by decide +kernel), tb0 1 (by decide +kernel), ⟨by decide +kernel, by decide +kernel, by decide +kernel⟩, by decide +kernel⟩
theorem imX_calms : Cond.instanceMethod (nmT nX_calms) ∈ gtb := tb4 213 (by decide +kernel)
theorem seX_calms : Cond.selects (nmT nX_calms).cls (nmT nX_calms) (nmT nX_calms) ∈ gtb := tb4 214 (by decide +kernel)
theorem mlX_strongest : ML nX_strongest 0 := ⟨tb4 224 (by decide +kernel), tb0 1 (by decide +kernel), ⟨by decide +kernel, by decide +kernel, by decide +kernel⟩, by decide +kernel⟩
theorem imX_strongest : Cond.instanceMethod (nmT nX_strongest) ∈ gtb := tb4 222 (by decide +kernel)
theorem seX_strongest : Cond.selects (nmT nX_strongest).cls (nmT nX_strongest) (nmT nX_strongest) ∈ gtb := tb4 223 (by decide +kernel)
theorem mlX_richest : ML nX_richest 0 := ⟨tb4 229 (by decide +kernel), tb0 1 (by decide +kernel), ⟨by decide +kernel, by decide +kernel, by decide +kernel⟩, by decide +kernel⟩
theorem imX_richest : Cond.instanceMethod (nmT nX_richest) ∈ gtb := tb4 227 (by decide +kernel)
theorem seX_richest : Cond.selects (nmT nX_richest).cls (nmT nX_richest) (nmT nX_richest) ∈ gtb := tb4 228 (by decide +kernel)
theorem mlX_often : ML nX_often 1 := ⟨tb4 233 (by decide +kernel), tb0 1 (by decide +kernel), ⟨by decide +kernel, by decide +kernel, by decide +kernel⟩, by decide +kernel⟩
theorem imX_often : Cond.instanceMethod (nmT nX_often) ∈ gtb := tb4 231 (by decide +kernel)
theorem seX_often : Cond.selects (nmT nX_often).cls (nmT nX_often) (nmT nX_often) ∈ gtb := tb4 232 (by decide +kernel)
theorem mlX_worstDay : ML nX_worstDay 0 := ⟨tb4 237 (by decide +kernel), tb0 1 (by decide +kernel), ⟨by decide +kernel, by decide +kernel, by decide +kernel⟩, by decide +kernel⟩
theorem imX_worstDay : Cond.instanceMethod (nmT nX_worstDay) ∈ gtb := tb4 235 (by decide +kernel)
theorem seX_worstDay : Cond.selects (nmT nX_worstDay).cls (nmT nX_worstDay) (nmT nX_worstDay) ∈ gtb := tb4 236 (by decide +kernel)
theorem mlX_image : ML nX_image 0 := ⟨tb5 1 (by decide +kernel), tb0 1 (by decide +kernel), ⟨by decide +kernel, by decide +kernel, by decide +kernel⟩, by decide +kernel⟩
theorem imX_image : Cond.instanceMethod (nmT nX_image) ∈ gtb := tb4 239 (by decide +kernel)
theorem seX_image : Cond.selects (nmT nX_image).cls (nmT nX_image) (nmT nX_image) ∈ gtb := tb5 0 (by decide +kernel)
theorem mlX_back : ML nX_back 0 := ⟨tb5 9 (by decide +kernel), tb0 1 (by decide +kernel), ⟨by decide +kernel, by decide +kernel, by decide +kernel⟩, by decide +kernel⟩
theorem imX_back : Cond.instanceMethod (nmT nX_back) ∈ gtb := tb5 7 (by decide +kernel)
theorem seX_back : Cond.selects (nmT nX_back).cls (nmT nX_back) (nmT nX_back) ∈ gtb := tb5 8 (by decide +kernel)
theorem mlX_about : ML nX_about 1 := ⟨tb5 13 (by decide +kernel), tb0 1 (by decide +kernel), ⟨by decide +kernel, by decide +kernel, by decide +kernel⟩, by decide +kernel⟩
theorem imX_about : Cond.instanceMethod (nmT nX_about) ∈ gtb := tb5 11 (by decide +kernel)
theorem seX_about : Cond.selects (nmT nX_about).cls (nmT nX_about) (nmT nX_about) ∈ gtb := tb5 12 (by decide +kernel)
theorem mlM_init : ML nM_init 0 := ⟨tb5 18 (by decide +kernel), tb0 13 (by decide +kernel), ⟨by decide +kernel, by decide +kernel, by decide +kernel⟩, by decide +kernel⟩
theorem imM_init : Cond.instanceMethod (nmT nM_init) ∈ gtb := tb5 17 (by decide +kernel)
theorem mlM_copy : ML nM_copy 2 := ⟨tb5 22 (by decide +kernel), tb0 13 (by decide +kernel), ⟨by decide +kernel, by decide +kernel, by decide +kernel⟩, by decide +kernel⟩
theorem stM_copy : Cond.static (nmT nM_copy) ∈ gtb := tb5 21 (by decide +kernel)
theorem mlM_isIn : ML nM_isIn 3 := ⟨tb5 145 (by decide +kernel), tb0 13 (by decide +kernel), ⟨by decide +kernel, by decide +kernel, by decide +kernel⟩, by decide +kernel⟩
theorem stM_isIn : Cond.static (nmT nM_isIn) ∈ gtb := tb5 144 (by decide +kernel)
theorem mlM_cut : ML nM_cut 3 := ⟨tb6 140 (by decide +kernel), tb0 13 (by decide +kernel), ⟨by decide +kernel, by decide +kernel, by decide +kernel⟩, by decide +kernel⟩
theorem stM_cut : Cond.static (nmT nM_cut) ∈ gtb := tb6 139 (by decide +kernel)
theorem mlM_has : ML nM_has 2 := ⟨tb6 3 (by decide +kernel), tb0 13 (by decide +kernel), ⟨by decide +kernel, by decide +kernel, by decide +kernel⟩, by decide +kernel⟩
theorem stM_has : Cond.static (nmT nM_has) ∈ gtb := tb6 2 (by decide +kernel)
theorem mlM_bits : ML nM_bits 1 := ⟨tb7 159 (by decide +kernel), tb0 13 (by decide +kernel), ⟨by decide +kernel, by decide +kernel, by decide +kernel⟩, by decide +kernel⟩
theorem stM_bits : Cond.static (nmT nM_bits) ∈ gtb := tb7 158 (by decide +kernel)
theorem mlM_isWind : ML nM_isWind 1 := ⟨tb6 121 (by decide +kernel), tb0 13 (by decide +kernel), ⟨by decide +kernel, by decide +kernel, by decide +kernel⟩, by decide +kernel⟩
theorem imM_isWind : Cond.instanceMethod (nmT nM_isWind) ∈ gtb := tb6 120 (by decide +kernel)
theorem seM_isWind : Cond.selects (nmT nM_isWind).cls (nmT nM_isWind) (nmT nM_isWind) ∈ gtb := tbS 85 (by decide +kernel)
theorem mlM_isVillage : ML nM_isVillage 1 := ⟨tb5 173 (by decide +kernel), tb0 13 (by decide +kernel), ⟨by decide +kernel, by decide +kernel, by decide +kernel⟩, by decide +kernel⟩
theorem imM_isVillage : Cond.instanceMethod (nmT nM_isVillage) ∈ gtb := tb5 172 (by decide +kernel)
theorem seM_isVillage : Cond.selects (nmT nM_isVillage).cls (nmT nM_isVillage) (nmT nM_isVillage) ∈ gtb := tbS 53 (by decide +kernel)
theorem mlM_get : ML nM_get 2 := ⟨tb5 157 (by decide +kernel), tb0 13 (by decide +kernel), ⟨by decide +kernel, by decide +kernel, by decide +kernel⟩, by decide +kernel⟩
theorem imM_get : Cond.instanceMethod (nmT nM_get) ∈ gtb := tb5 156 (by decide +kernel)
theorem seM_get : Cond.selects (nmT nM_get).cls (nmT nM_get) (nmT nM_get) ∈ gtb := tbS 51 (by decide +kernel)
theorem mlM_put : ML nM_put 3 := ⟨tb5 149 (by decide +kernel), tb0 13 (by decide +kernel), ⟨by decide +kernel, by decide +kernel, by decide +kernel⟩, by decide +kernel⟩
theorem imM_put : Cond.instanceMethod (nmT nM_put) ∈ gtb := tb5 148 (by decide +kernel)
theorem seM_put : Cond.selects (nmT nM_put).cls (nmT nM_put) (nmT nM_put) ∈ gtb := tbS 49 (by decide +kernel)
theorem mlM_of : ML nM_of 2 := ⟨tb6 105 (by decide +kernel), tb0 13 (by decide +kernel), ⟨by decide +kernel, by decide +kernel, by decide +kernel⟩, by decide +kernel⟩
theorem imM_of : Cond.instanceMethod (nmT nM_of) ∈ gtb := tb6 104 (by decide +kernel)
theorem seM_of : Cond.selects (nmT nM_of).cls (nmT nM_of) (nmT nM_of) ∈ gtb := tbS 82 (by decide +kernel)
theorem mlM_lay : ML nM_lay 3 := ⟨tb5 165 (by decide +kernel), tb0 13 (by decide +kernel), ⟨by decide +kernel, by decide +kernel, by decide +kernel⟩, by decide +kernel⟩
theorem imM_lay : Cond.instanceMethod (nmT nM_lay) ∈ gtb := tb5 164 (by decide +kernel)
theorem seM_lay : Cond.selects (nmT nM_lay).cls (nmT nM_lay) (nmT nM_lay) ∈ gtb := tbS 52 (by decide +kernel)
theorem mlM_isHere : ML nM_isHere 1 := ⟨tb6 117 (by decide +kernel), tb0 13 (by decide +kernel), ⟨by decide +kernel, by decide +kernel, by decide +kernel⟩, by decide +kernel⟩
theorem imM_isHere : Cond.instanceMethod (nmT nM_isHere) ∈ gtb := tb6 116 (by decide +kernel)
theorem seM_isHere : Cond.selects (nmT nM_isHere).cls (nmT nM_isHere) (nmT nM_isHere) ∈ gtb := tbS 84 (by decide +kernel)
theorem mlM_wind : ML nM_wind 3 := ⟨tb5 142 (by decide +kernel), tb0 13 (by decide +kernel), ⟨by decide +kernel, by decide +kernel, by decide +kernel⟩, by decide +kernel⟩
theorem imM_wind : Cond.instanceMethod (nmT nM_wind) ∈ gtb := tb5 140 (by decide +kernel)
theorem seM_wind : Cond.selects (nmT nM_wind).cls (nmT nM_wind) (nmT nM_wind) ∈ gtb := tb5 141 (by decide +kernel)
theorem mlM_begin : ML nM_begin 1 := ⟨tb5 153 (by decide +kernel), tb0 13 (by decide +kernel), ⟨by decide +kernel, by decide +kernel, by decide +kernel⟩, by decide +kernel⟩
theorem imM_begin : Cond.instanceMethod (nmT nM_begin) ∈ gtb := tb5 152 (by decide +kernel)
theorem seM_begin : Cond.selects (nmT nM_begin).cls (nmT nM_begin) (nmT nM_begin) ∈ gtb := tbS 50 (by decide +kernel)
theorem mlM_village : ML nM_village 2 := ⟨tb5 161 (by decide +kernel), tb0 13 (by decide +kernel), ⟨by decide +kernel, by decide +kernel, by decide +kernel⟩, by decide +kernel⟩
theorem imM_village : Cond.instanceMethod (nmT nM_village) ∈ gtb := tb5 159 (by decide +kernel)
theorem seM_village : Cond.selects (nmT nM_village).cls (nmT nM_village) (nmT nM_village) ∈ gtb := tb5 160 (by decide +kernel)
theorem mlM_way : ML nM_way 3 := ⟨tb5 169 (by decide +kernel), tb0 13 (by decide +kernel), ⟨by decide +kernel, by decide +kernel, by decide +kernel⟩, by decide +kernel⟩
theorem imM_way : Cond.instanceMethod (nmT nM_way) ∈ gtb := tb5 167 (by decide +kernel)
theorem seM_way : Cond.selects (nmT nM_way).cls (nmT nM_way) (nmT nM_way) ∈ gtb := tb5 168 (by decide +kernel)
theorem mlM_four : ML nM_four 1 := ⟨tb5 181 (by decide +kernel), tb0 13 (by decide +kernel), ⟨by decide +kernel, by decide +kernel, by decide +kernel⟩, by decide +kernel⟩
theorem imM_four : Cond.instanceMethod (nmT nM_four) ∈ gtb := tb5 180 (by decide +kernel)
theorem seM_four : Cond.selects (nmT nM_four).cls (nmT nM_four) (nmT nM_four) ∈ gtb := tbS 54 (by decide +kernel)
theorem mlM_feed : ML nM_feed 5 := ⟨tb5 177 (by decide +kernel), tb0 13 (by decide +kernel), ⟨by decide +kernel, by decide +kernel, by decide +kernel⟩, by decide +kernel⟩
theorem imM_feed : Cond.instanceMethod (nmT nM_feed) ∈ gtb := tb5 175 (by decide +kernel)
theorem seM_feed : Cond.selects (nmT nM_feed).cls (nmT nM_feed) (nmT nM_feed) ∈ gtb := tb5 176 (by decide +kernel)
theorem mlM_end : ML nM_end 1 := ⟨tb5 185 (by decide +kernel), tb0 13 (by decide +kernel), ⟨by decide +kernel, by decide +kernel, by decide +kernel⟩, by decide +kernel⟩
theorem imM_end : Cond.instanceMethod (nmT nM_end) ∈ gtb := tb5 183 (by decide +kernel)
theorem seM_end : Cond.selects (nmT nM_end).cls (nmT nM_end) (nmT nM_end) ∈ gtb := tb5 184 (by decide +kernel)
theorem mlM_byteAt : ML nM_byteAt 1 := ⟨tb5 201 (by decide +kernel), tb0 13 (by decide +kernel), ⟨by decide +kernel, by decide +kernel, by decide +kernel⟩, by decide +kernel⟩
theorem imM_byteAt : Cond.instanceMethod (nmT nM_byteAt) ∈ gtb := tb5 200 (by decide +kernel)
theorem seM_byteAt : Cond.selects (nmT nM_byteAt).cls (nmT nM_byteAt) (nmT nM_byteAt) ∈ gtb := tbS 57 (by decide +kernel)
theorem mlM_isLetterByte : ML nM_isLetterByte 1 := ⟨tb5 208 (by decide +kernel), tb0 13 (by decide +kernel), ⟨by decide +kernel, by decide +kernel, by decide +kernel⟩, by decide +kernel⟩
theorem stM_isLetterByte : Cond.static (nmT nM_isLetterByte) ∈ gtb := tb5 207 (by decide +kernel)
theorem mlM_isFigure : ML nM_isFigure 1 := ⟨tb5 204 (by decide +kernel), tb0 13 (by decide +kernel), ⟨by decide +kernel, by decide +kernel, by decide +kernel⟩, by decide +kernel⟩
theorem stM_isFigure : Cond.static (nmT nM_isFigure) ∈ gtb := tb5 203 (by decide +kernel)
theorem mlM_isSign : ML nM_isSign 1 := ⟨tb5 212 (by decide +kernel), tb0 13 (by decide +kernel), ⟨by decide +kernel, by decide +kernel, by decide +kernel⟩, by decide +kernel⟩
theorem stM_isSign : Cond.static (nmT nM_isSign) ∈ gtb := tb5 211 (by decide +kernel)
theorem mlM_nextToken : ML nM_nextToken 0 := ⟨tb5 197 (by decide +kernel), tb0 13 (by decide +kernel), ⟨by decide +kernel, by decide +kernel, by decide +kernel⟩, by decide +kernel⟩
theorem imM_nextToken : Cond.instanceMethod (nmT nM_nextToken) ∈ gtb := tb5 196 (by decide +kernel)
theorem seM_nextToken : Cond.selects (nmT nM_nextToken).cls (nmT nM_nextToken) (nmT nM_nextToken) ∈ gtb := tbS 56 (by decide +kernel)
theorem mlM_w2 : ML nM_w2 2 := ⟨tb5 232 (by decide +kernel), tb0 13 (by decide +kernel), ⟨by decide +kernel, by decide +kernel, by decide +kernel⟩, by decide +kernel⟩
theorem stM_w2 : Cond.static (nmT nM_w2) ∈ gtb := tb5 231 (by decide +kernel)
theorem mlM_w3 : ML nM_w3 3 := ⟨tb5 229 (by decide +kernel), tb0 13 (by decide +kernel), ⟨by decide +kernel, by decide +kernel, by decide +kernel⟩, by decide +kernel⟩
theorem stM_w3 : Cond.static (nmT nM_w3) ∈ gtb := tb5 228 (by decide +kernel)
theorem mlM_w4 : ML nM_w4 4 := ⟨tb5 226 (by decide +kernel), tb0 13 (by decide +kernel), ⟨by decide +kernel, by decide +kernel, by decide +kernel⟩, by decide +kernel⟩
theorem stM_w4 : Cond.static (nmT nM_w4) ∈ gtb := tb5 225 (by decide +kernel)
theorem mlM_w5 : ML nM_w5 5 := ⟨tb5 223 (by decide +kernel), tb0 13 (by decide +kernel), ⟨by decide +kernel, by decide +kernel, by decide +kernel⟩, by decide +kernel⟩
theorem stM_w5 : Cond.static (nmT nM_w5) ∈ gtb := tb5 222 (by decide +kernel)
theorem mlM_w6 : ML nM_w6 6 := ⟨tb6 10 (by decide +kernel), tb0 13 (by decide +kernel), ⟨by decide +kernel, by decide +kernel, by decide +kernel⟩, by decide +kernel⟩
theorem stM_w6 : Cond.static (nmT nM_w6) ∈ gtb := tb6 9 (by decide +kernel)
theorem mlM_isWord : ML nM_isWord 1 := ⟨tb5 236 (by decide +kernel), tb0 13 (by decide +kernel), ⟨by decide +kernel, by decide +kernel, by decide +kernel⟩, by decide +kernel⟩
theorem imM_isWord : Cond.instanceMethod (nmT nM_isWord) ∈ gtb := tb5 235 (by decide +kernel)
theorem seM_isWord : Cond.selects (nmT nM_isWord).cls (nmT nM_isWord) (nmT nM_isWord) ∈ gtb := tbS 60 (by decide +kernel)
theorem mlM_emit : ML nM_emit 2 := ⟨tb6 65 (by decide +kernel), tb0 13 (by decide +kernel), ⟨by decide +kernel, by decide +kernel, by decide +kernel⟩, by decide +kernel⟩
theorem imM_emit : Cond.instanceMethod (nmT nM_emit) ∈ gtb := tb6 64 (by decide +kernel)
theorem seM_emit : Cond.selects (nmT nM_emit).cls (nmT nM_emit) (nmT nM_emit) ∈ gtb := tbS 75 (by decide +kernel)
theorem mlM_isLong : ML nM_isLong 2 := ⟨tb6 0 (by decide +kernel), tb0 13 (by decide +kernel), ⟨by decide +kernel, by decide +kernel, by decide +kernel⟩, by decide +kernel⟩
theorem imM_isLong : Cond.instanceMethod (nmT nM_isLong) ∈ gtb := tb5 239 (by decide +kernel)
theorem seM_isLong : Cond.selects (nmT nM_isLong).cls (nmT nM_isLong) (nmT nM_isLong) ∈ gtb := tbS 61 (by decide +kernel)
theorem mlM_nameOf : ML nM_nameOf 0 := ⟨tb6 77 (by decide +kernel), tb0 13 (by decide +kernel), ⟨by decide +kernel, by decide +kernel, by decide +kernel⟩, by decide +kernel⟩
theorem imM_nameOf : Cond.instanceMethod (nmT nM_nameOf) ∈ gtb := tb6 76 (by decide +kernel)
theorem seM_nameOf : Cond.selects (nmT nM_nameOf).cls (nmT nM_nameOf) (nmT nM_nameOf) ∈ gtb := tbS 78 (by decide +kernel)
theorem mlM_isOf : ML nM_isOf 1 := ⟨tb6 81 (by decide +kernel), tb0 13 (by decide +kernel), ⟨by decide +kernel, by decide +kernel, by decide +kernel⟩, by decide +kernel⟩
theorem imM_isOf : Cond.instanceMethod (nmT nM_isOf) ∈ gtb := tb6 80 (by decide +kernel)
theorem seM_isOf : Cond.selects (nmT nM_isOf).cls (nmT nM_isOf) (nmT nM_isOf) ∈ gtb := tbS 79 (by decide +kernel)
theorem mlM_rank : ML nM_rank 1 := ⟨tb6 53 (by decide +kernel), tb0 13 (by decide +kernel), ⟨by decide +kernel, by decide +kernel, by decide +kernel⟩, by decide +kernel⟩
theorem stM_rank : Cond.static (nmT nM_rank) ∈ gtb := tb6 52 (by decide +kernel)
theorem mlM_settle : ML nM_settle 1 := ⟨tb6 61 (by decide +kernel), tb0 13 (by decide +kernel), ⟨by decide +kernel, by decide +kernel, by decide +kernel⟩, by decide +kernel⟩
theorem imM_settle : Cond.instanceMethod (nmT nM_settle) ∈ gtb := tb6 60 (by decide +kernel)
theorem seM_settle : Cond.selects (nmT nM_settle).cls (nmT nM_settle) (nmT nM_settle) ∈ gtb := tbS 74 (by decide +kernel)
theorem mlM_isOpen : ML nM_isOpen 0 := ⟨tb6 46 (by decide +kernel), tb0 13 (by decide +kernel), ⟨by decide +kernel, by decide +kernel, by decide +kernel⟩, by decide +kernel⟩
theorem imM_isOpen : Cond.instanceMethod (nmT nM_isOpen) ∈ gtb := tb6 45 (by decide +kernel)
theorem seM_isOpen : Cond.selects (nmT nM_isOpen).cls (nmT nM_isOpen) (nmT nM_isOpen) ∈ gtb := tbS 71 (by decide +kernel)
theorem mlM_isCompared : ML nM_isCompared 0 := ⟨tb6 50 (by decide +kernel), tb0 13 (by decide +kernel), ⟨by decide +kernel, by decide +kernel, by decide +kernel⟩, by decide +kernel⟩
theorem imM_isCompared : Cond.instanceMethod (nmT nM_isCompared) ∈ gtb := tb6 49 (by decide +kernel)
theorem seM_isCompared : Cond.selects (nmT nM_isCompared).cls (nmT nM_isCompared) (nmT nM_isCompared) ∈ gtb := tbS 72 (by decide +kernel)
theorem mlM_isAskAhead : ML nM_isAskAhead 0 := ⟨tb6 89 (by decide +kernel), tb0 13 (by decide +kernel), ⟨by decide +kernel, by decide +kernel, by decide +kernel⟩, by decide +kernel⟩
theorem imM_isAskAhead : Cond.instanceMethod (nmT nM_isAskAhead) ∈ gtb := tb6 88 (by decide +kernel)
theorem seM_isAskAhead : Cond.selects (nmT nM_isAskAhead).cls (nmT nM_isAskAhead) (nmT nM_isAskAhead) ∈ gtb := tbS 81 (by decide +kernel)
theorem mlM_opened : ML nM_opened 1 := ⟨tb6 85 (by decide +kernel), tb0 13 (by decide +kernel), ⟨by decide +kernel, by decide +kernel, by decide +kernel⟩, by decide +kernel⟩
theorem imM_opened : Cond.instanceMethod (nmT nM_opened) ∈ gtb := tb6 84 (by decide +kernel)
theorem seM_opened : Cond.selects (nmT nM_opened).cls (nmT nM_opened) (nmT nM_opened) ∈ gtb := tbS 80 (by decide +kernel)
theorem mlM_beginOne : ML nM_beginOne 0 := ⟨tb6 73 (by decide +kernel), tb0 13 (by decide +kernel), ⟨by decide +kernel, by decide +kernel, by decide +kernel⟩, by decide +kernel⟩
theorem imM_beginOne : Cond.instanceMethod (nmT nM_beginOne) ∈ gtb := tb6 72 (by decide +kernel)
theorem seM_beginOne : Cond.selects (nmT nM_beginOne).cls (nmT nM_beginOne) (nmT nM_beginOne) ∈ gtb := tbS 77 (by decide +kernel)
theorem mlM_endOne : ML nM_endOne 0 := ⟨tb6 69 (by decide +kernel), tb0 13 (by decide +kernel), ⟨by decide +kernel, by decide +kernel, by decide +kernel⟩, by decide +kernel⟩
theorem imM_endOne : Cond.instanceMethod (nmT nM_endOne) ∈ gtb := tb6 68 (by decide +kernel)
theorem seM_endOne : Cond.selects (nmT nM_endOne).cls (nmT nM_endOne) (nmT nM_endOne) ∈ gtb := tbS 76 (by decide +kernel)
theorem mlM_compareOf : ML nM_compareOf 0 := ⟨tb6 57 (by decide +kernel), tb0 13 (by decide +kernel), ⟨by decide +kernel, by decide +kernel, by decide +kernel⟩, by decide +kernel⟩
theorem imM_compareOf : Cond.instanceMethod (nmT nM_compareOf) ∈ gtb := tb6 56 (by decide +kernel)
theorem seM_compareOf : Cond.selects (nmT nM_compareOf).cls (nmT nM_compareOf) (nmT nM_compareOf) ∈ gtb := tbS 73 (by decide +kernel)
theorem mlM_betweenOf : ML nM_betweenOf 0 := ⟨tb6 42 (by decide +kernel), tb0 13 (by decide +kernel), ⟨by decide +kernel, by decide +kernel, by decide +kernel⟩, by decide +kernel⟩
theorem imM_betweenOf : Cond.instanceMethod (nmT nM_betweenOf) ∈ gtb := tb6 41 (by decide +kernel)
theorem seM_betweenOf : Cond.selects (nmT nM_betweenOf).cls (nmT nM_betweenOf) (nmT nM_betweenOf) ∈ gtb := tbS 70 (by decide +kernel)
theorem mlM_behindOne : ML nM_behindOne 0 := ⟨tb6 38 (by decide +kernel), tb0 13 (by decide +kernel), ⟨by decide +kernel, by decide +kernel, by decide +kernel⟩, by decide +kernel⟩
theorem imM_behindOne : Cond.instanceMethod (nmT nM_behindOne) ∈ gtb := tb6 37 (by decide +kernel)
theorem seM_behindOne : Cond.selects (nmT nM_behindOne).cls (nmT nM_behindOne) (nmT nM_behindOne) ∈ gtb := tbS 69 (by decide +kernel)
theorem mlM_parsed : ML nM_parsed 1 := ⟨tb6 34 (by decide +kernel), tb0 13 (by decide +kernel), ⟨by decide +kernel, by decide +kernel, by decide +kernel⟩, by decide +kernel⟩
theorem imM_parsed : Cond.instanceMethod (nmT nM_parsed) ∈ gtb := tb6 33 (by decide +kernel)
theorem seM_parsed : Cond.selects (nmT nM_parsed).cls (nmT nM_parsed) (nmT nM_parsed) ∈ gtb := tbS 68 (by decide +kernel)
theorem mlM_figure : ML nM_figure 3 := ⟨tb6 18 (by decide +kernel), tb0 13 (by decide +kernel), ⟨by decide +kernel, by decide +kernel, by decide +kernel⟩, by decide +kernel⟩
theorem imM_figure : Cond.instanceMethod (nmT nM_figure) ∈ gtb := tb6 17 (by decide +kernel)
theorem seM_figure : Cond.selects (nmT nM_figure).cls (nmT nM_figure) (nmT nM_figure) ∈ gtb := tbS 64 (by decide +kernel)
theorem mlM_worded : ML nM_worded 4 := ⟨tb6 22 (by decide +kernel), tb0 13 (by decide +kernel), ⟨by decide +kernel, by decide +kernel, by decide +kernel⟩, by decide +kernel⟩
theorem imM_worded : Cond.instanceMethod (nmT nM_worded) ∈ gtb := tb6 21 (by decide +kernel)
theorem seM_worded : Cond.selects (nmT nM_worded).cls (nmT nM_worded) (nmT nM_worded) ∈ gtb := tbS 65 (by decide +kernel)
theorem mlM_lawClause : ML nM_lawClause 2 := ⟨tb6 30 (by decide +kernel), tb0 13 (by decide +kernel), ⟨by decide +kernel, by decide +kernel, by decide +kernel⟩, by decide +kernel⟩
theorem imM_lawClause : Cond.instanceMethod (nmT nM_lawClause) ∈ gtb := tb6 29 (by decide +kernel)
theorem seM_lawClause : Cond.selects (nmT nM_lawClause).cls (nmT nM_lawClause) (nmT nM_lawClause) ∈ gtb := tbS 67 (by decide +kernel)
theorem mlM_three : ML nM_three 7 := ⟨tb6 14 (by decide +kernel), tb0 13 (by decide +kernel), ⟨by decide +kernel, by decide +kernel, by decide +kernel⟩, by decide +kernel⟩
theorem imM_three : Cond.instanceMethod (nmT nM_three) ∈ gtb := tb6 13 (by decide +kernel)
theorem seM_three : Cond.selects (nmT nM_three).cls (nmT nM_three) (nmT nM_three) ∈ gtb := tbS 63 (by decide +kernel)
theorem mlM_two0 : ML nM_two0 4 := ⟨tb6 26 (by decide +kernel), tb0 13 (by decide +kernel), ⟨by decide +kernel, by decide +kernel, by decide +kernel⟩, by decide +kernel⟩
theorem imM_two0 : Cond.instanceMethod (nmT nM_two0) ∈ gtb := tb6 25 (by decide +kernel)
theorem seM_two0 : Cond.selects (nmT nM_two0).cls (nmT nM_two0) (nmT nM_two0) ∈ gtb := tbS 66 (by decide +kernel)
theorem mlM_body : ML nM_body 2 := ⟨tb6 7 (by decide +kernel), tb0 13 (by decide +kernel), ⟨by decide +kernel, by decide +kernel, by decide +kernel⟩, by decide +kernel⟩
theorem imM_body : Cond.instanceMethod (nmT nM_body) ∈ gtb := tb6 6 (by decide +kernel)
theorem seM_body : Cond.selects (nmT nM_body).cls (nmT nM_body) (nmT nM_body) ∈ gtb := tbS 62 (by decide +kernel)
theorem mlM_sortOf : ML nM_sortOf 0 := ⟨tb5 220 (by decide +kernel), tb0 13 (by decide +kernel), ⟨by decide +kernel, by decide +kernel, by decide +kernel⟩, by decide +kernel⟩
theorem imM_sortOf : Cond.instanceMethod (nmT nM_sortOf) ∈ gtb := tb5 219 (by decide +kernel)
theorem seM_sortOf : Cond.selects (nmT nM_sortOf).cls (nmT nM_sortOf) (nmT nM_sortOf) ∈ gtb := tbS 59 (by decide +kernel)
theorem mlM_clause : ML nM_clause 0 := ⟨tb5 216 (by decide +kernel), tb0 13 (by decide +kernel), ⟨by decide +kernel, by decide +kernel, by decide +kernel⟩, by decide +kernel⟩
theorem imM_clause : Cond.instanceMethod (nmT nM_clause) ∈ gtb := tb5 215 (by decide +kernel)
theorem seM_clause : Cond.selects (nmT nM_clause).cls (nmT nM_clause) (nmT nM_clause) ∈ gtb := tbS 58 (by decide +kernel)
theorem mlM_readText : ML nM_readText 0 := ⟨tb5 193 (by decide +kernel), tb0 13 (by decide +kernel), ⟨by decide +kernel, by decide +kernel, by decide +kernel⟩, by decide +kernel⟩
theorem imM_readText : Cond.instanceMethod (nmT nM_readText) ∈ gtb := tb5 192 (by decide +kernel)
theorem seM_readText : Cond.selects (nmT nM_readText).cls (nmT nM_readText) (nmT nM_readText) ∈ gtb := tbS 55 (by decide +kernel)
theorem mlM_text : ML nM_text 0 := ⟨tb5 189 (by decide +kernel), tb0 13 (by decide +kernel), ⟨by decide +kernel, by decide +kernel, by decide +kernel⟩, by decide +kernel⟩
theorem imM_text : Cond.instanceMethod (nmT nM_text) ∈ gtb := tb5 187 (by decide +kernel)
theorem seM_text : Cond.selects (nmT nM_text).cls (nmT nM_text) (nmT nM_text) ∈ gtb := tb5 188 (by decide +kernel)
theorem mlM_fault : ML nM_fault 1 := ⟨tb6 93 (by decide +kernel), tb0 13 (by decide +kernel), ⟨by decide +kernel, by decide +kernel, by decide +kernel⟩, by decide +kernel⟩
theorem imM_fault : Cond.instanceMethod (nmT nM_fault) ∈ gtb := tb6 91 (by decide +kernel)
theorem seM_fault : Cond.selects (nmT nM_fault).cls (nmT nM_fault) (nmT nM_fault) ∈ gtb := tb6 92 (by decide +kernel)
theorem mlM_by : ML nM_by 1 := ⟨tb6 97 (by decide +kernel), tb0 13 (by decide +kernel), ⟨by decide +kernel, by decide +kernel, by decide +kernel⟩, by decide +kernel⟩
theorem imM_by : Cond.instanceMethod (nmT nM_by) ∈ gtb := tb6 95 (by decide +kernel)
theorem seM_by : Cond.selects (nmT nM_by).cls (nmT nM_by) (nmT nM_by) ∈ gtb := tb6 96 (by decide +kernel)
theorem mlM_clip : ML nM_clip 1 := ⟨tb6 188 (by decide +kernel), tb0 13 (by decide +kernel), ⟨by decide +kernel, by decide +kernel, by decide +kernel⟩, by decide +kernel⟩
theorem stM_clip : Cond.static (nmT nM_clip) ∈ gtb := tb6 187 (by decide +kernel)
theorem mlM_two : ML nM_two 3 := ⟨tb6 185 (by decide +kernel), tb0 13 (by decide +kernel), ⟨by decide +kernel, by decide +kernel, by decide +kernel⟩, by decide +kernel⟩
theorem stM_two : Cond.static (nmT nM_two) ∈ gtb := tb6 184 (by decide +kernel)
theorem mlM_isAsked : ML nM_isAsked 3 := ⟨tb6 193 (by decide +kernel), tb0 13 (by decide +kernel), ⟨by decide +kernel, by decide +kernel, by decide +kernel⟩, by decide +kernel⟩
theorem stM_isAsked : Cond.static (nmT nM_isAsked) ∈ gtb := tb6 192 (by decide +kernel)
theorem mlM_rounded : ML nM_rounded 2 := ⟨tb6 179 (by decide +kernel), tb0 13 (by decide +kernel), ⟨by decide +kernel, by decide +kernel, by decide +kernel⟩, by decide +kernel⟩
theorem stM_rounded : Cond.static (nmT nM_rounded) ∈ gtb := tb6 178 (by decide +kernel)
theorem mlM_debtOf : ML nM_debtOf 1 := ⟨tb6 176 (by decide +kernel), tb0 13 (by decide +kernel), ⟨by decide +kernel, by decide +kernel, by decide +kernel⟩, by decide +kernel⟩
theorem imM_debtOf : Cond.instanceMethod (nmT nM_debtOf) ∈ gtb := tb6 175 (by decide +kernel)
theorem seM_debtOf : Cond.selects (nmT nM_debtOf).cls (nmT nM_debtOf) (nmT nM_debtOf) ∈ gtb := tbS 96 (by decide +kernel)
theorem mlM_joined : ML nM_joined 3 := ⟨tb6 196 (by decide +kernel), tb0 13 (by decide +kernel), ⟨by decide +kernel, by decide +kernel, by decide +kernel⟩, by decide +kernel⟩
theorem stM_joined : Cond.static (nmT nM_joined) ∈ gtb := tb6 195 (by decide +kernel)
theorem mlM_work : ML nM_work 1 := ⟨tb6 172 (by decide +kernel), tb0 13 (by decide +kernel), ⟨by decide +kernel, by decide +kernel, by decide +kernel⟩, by decide +kernel⟩
theorem imM_work : Cond.instanceMethod (nmT nM_work) ∈ gtb := tb6 171 (by decide +kernel)
theorem seM_work : Cond.selects (nmT nM_work).cls (nmT nM_work) (nmT nM_work) ∈ gtb := tbS 95 (by decide +kernel)
theorem mlM_clauseOf : ML nM_clauseOf 1 := ⟨tb6 168 (by decide +kernel), tb0 13 (by decide +kernel), ⟨by decide +kernel, by decide +kernel, by decide +kernel⟩, by decide +kernel⟩
theorem imM_clauseOf : Cond.instanceMethod (nmT nM_clauseOf) ∈ gtb := tb6 167 (by decide +kernel)
theorem seM_clauseOf : Cond.selects (nmT nM_clauseOf).cls (nmT nM_clauseOf) (nmT nM_clauseOf) ∈ gtb := tbS 94 (by decide +kernel)
theorem mlM_says : ML nM_says 3 := ⟨tb6 164 (by decide +kernel), tb0 13 (by decide +kernel), ⟨by decide +kernel, by decide +kernel, by decide +kernel⟩, by decide +kernel⟩
theorem imM_says : Cond.instanceMethod (nmT nM_says) ∈ gtb := tb6 163 (by decide +kernel)
theorem seM_says : Cond.selects (nmT nM_says).cls (nmT nM_says) (nmT nM_says) ∈ gtb := tbS 93 (by decide +kernel)
theorem mlM_name : ML nM_name 3 := ⟨tb6 160 (by decide +kernel), tb0 13 (by decide +kernel), ⟨by decide +kernel, by decide +kernel, by decide +kernel⟩, by decide +kernel⟩
theorem imM_name : Cond.instanceMethod (nmT nM_name) ∈ gtb := tb6 159 (by decide +kernel)
theorem seM_name : Cond.selects (nmT nM_name).cls (nmT nM_name) (nmT nM_name) ∈ gtb := tbS 92 (by decide +kernel)
theorem mlM_isComing : ML nM_isComing 1 := ⟨tb6 219 (by decide +kernel), tb0 13 (by decide +kernel), ⟨by decide +kernel, by decide +kernel, by decide +kernel⟩, by decide +kernel⟩
theorem imM_isComing : Cond.instanceMethod (nmT nM_isComing) ∈ gtb := tb6 218 (by decide +kernel)
theorem seM_isComing : Cond.selects (nmT nM_isComing).cls (nmT nM_isComing) (nmT nM_isComing) ∈ gtb := tbS 101 (by decide +kernel)
theorem mlM_blowsOf : ML nM_blowsOf 3 := ⟨tb6 227 (by decide +kernel), tb0 13 (by decide +kernel), ⟨by decide +kernel, by decide +kernel, by decide +kernel⟩, by decide +kernel⟩
theorem imM_blowsOf : Cond.instanceMethod (nmT nM_blowsOf) ∈ gtb := tb6 226 (by decide +kernel)
theorem seM_blowsOf : Cond.selects (nmT nM_blowsOf).cls (nmT nM_blowsOf) (nmT nM_blowsOf) ∈ gtb := tbS 103 (by decide +kernel)
theorem mlM_blowsNow : ML nM_blowsNow 1 := ⟨tb6 223 (by decide +kernel), tb0 13 (by decide +kernel), ⟨by decide +kernel, by decide +kernel, by decide +kernel⟩, by decide +kernel⟩
theorem imM_blowsNow : Cond.instanceMethod (nmT nM_blowsNow) ∈ gtb := tb6 222 (by decide +kernel)
theorem seM_blowsNow : Cond.selects (nmT nM_blowsNow).cls (nmT nM_blowsNow) (nmT nM_blowsNow) ∈ gtb := tbS 102 (by decide +kernel)
theorem mlM_duesOf : ML nM_duesOf 1 := ⟨tb6 156 (by decide +kernel), tb0 13 (by decide +kernel), ⟨by decide +kernel, by decide +kernel, by decide +kernel⟩, by decide +kernel⟩
theorem imM_duesOf : Cond.instanceMethod (nmT nM_duesOf) ∈ gtb := tb6 155 (by decide +kernel)
theorem seM_duesOf : Cond.selects (nmT nM_duesOf).cls (nmT nM_duesOf) (nmT nM_duesOf) ∈ gtb := tbS 91 (by decide +kernel)
theorem mlM_nameVillage : ML nM_nameVillage 3 := ⟨tb6 239 (by decide +kernel), tb0 13 (by decide +kernel), ⟨by decide +kernel, by decide +kernel, by decide +kernel⟩, by decide +kernel⟩
theorem imM_nameVillage : Cond.instanceMethod (nmT nM_nameVillage) ∈ gtb := tb6 238 (by decide +kernel)
theorem seM_nameVillage : Cond.selects (nmT nM_nameVillage).cls (nmT nM_nameVillage) (nmT nM_nameVillage) ∈ gtb := tbS 106 (by decide +kernel)
theorem mlM_takesOf : ML nM_takesOf 3 := ⟨tb6 235 (by decide +kernel), tb0 13 (by decide +kernel), ⟨by decide +kernel, by decide +kernel, by decide +kernel⟩, by decide +kernel⟩
theorem imM_takesOf : Cond.instanceMethod (nmT nM_takesOf) ∈ gtb := tb6 234 (by decide +kernel)
theorem seM_takesOf : Cond.selects (nmT nM_takesOf).cls (nmT nM_takesOf) (nmT nM_takesOf) ∈ gtb := tbS 105 (by decide +kernel)
theorem mlM_catchOf : ML nM_catchOf 3 := ⟨tb7 3 (by decide +kernel), tb0 13 (by decide +kernel), ⟨by decide +kernel, by decide +kernel, by decide +kernel⟩, by decide +kernel⟩
theorem imM_catchOf : Cond.instanceMethod (nmT nM_catchOf) ∈ gtb := tb7 2 (by decide +kernel)
theorem seM_catchOf : Cond.selects (nmT nM_catchOf).cls (nmT nM_catchOf) (nmT nM_catchOf) ∈ gtb := tbS 107 (by decide +kernel)
theorem mlM_weights : ML nM_weights 0 := ⟨tb6 208 (by decide +kernel), tb0 13 (by decide +kernel), ⟨by decide +kernel, by decide +kernel, by decide +kernel⟩, by decide +kernel⟩
theorem imM_weights : Cond.instanceMethod (nmT nM_weights) ∈ gtb := tb6 207 (by decide +kernel)
theorem seM_weights : Cond.selects (nmT nM_weights).cls (nmT nM_weights) (nmT nM_weights) ∈ gtb := tbS 99 (by decide +kernel)
theorem mlM_anew : ML nM_anew 0 := ⟨tb6 212 (by decide +kernel), tb0 13 (by decide +kernel), ⟨by decide +kernel, by decide +kernel, by decide +kernel⟩, by decide +kernel⟩
theorem imM_anew : Cond.instanceMethod (nmT nM_anew) ∈ gtb := tb6 211 (by decide +kernel)
theorem seM_anew : Cond.selects (nmT nM_anew).cls (nmT nM_anew) (nmT nM_anew) ∈ gtb := tbS 100 (by decide +kernel)
theorem mlM_drawn : ML nM_drawn 0 := ⟨tb6 204 (by decide +kernel), tb0 13 (by decide +kernel), ⟨by decide +kernel, by decide +kernel, by decide +kernel⟩, by decide +kernel⟩
theorem imM_drawn : Cond.instanceMethod (nmT nM_drawn) ∈ gtb := tb6 203 (by decide +kernel)
theorem seM_drawn : Cond.selects (nmT nM_drawn).cls (nmT nM_drawn) (nmT nM_drawn) ∈ gtb := tbS 98 (by decide +kernel)
theorem mlM_blow : ML nM_blow 0 := ⟨tb6 200 (by decide +kernel), tb0 13 (by decide +kernel), ⟨by decide +kernel, by decide +kernel, by decide +kernel⟩, by decide +kernel⟩
theorem imM_blow : Cond.instanceMethod (nmT nM_blow) ∈ gtb := tb6 199 (by decide +kernel)
theorem seM_blow : Cond.selects (nmT nM_blow).cls (nmT nM_blow) (nmT nM_blow) ∈ gtb := tbS 97 (by decide +kernel)
theorem mlM_takeFrom : ML nM_takeFrom 1 := ⟨tb6 231 (by decide +kernel), tb0 13 (by decide +kernel), ⟨by decide +kernel, by decide +kernel, by decide +kernel⟩, by decide +kernel⟩
theorem imM_takeFrom : Cond.instanceMethod (nmT nM_takeFrom) ∈ gtb := tb6 230 (by decide +kernel)
theorem seM_takeFrom : Cond.selects (nmT nM_takeFrom).cls (nmT nM_takeFrom) (nmT nM_takeFrom) ∈ gtb := tbS 104 (by decide +kernel)
theorem mlM_write : ML nM_write 0 := ⟨tb7 7 (by decide +kernel), tb0 13 (by decide +kernel), ⟨by decide +kernel, by decide +kernel, by decide +kernel⟩, by decide +kernel⟩
theorem imM_write : Cond.instanceMethod (nmT nM_write) ∈ gtb := tb7 6 (by decide +kernel)
theorem seM_write : Cond.selects (nmT nM_write).cls (nmT nM_write) (nmT nM_write) ∈ gtb := tbS 108 (by decide +kernel)
theorem mlM_pass : ML nM_pass 0 := ⟨tb6 152 (by decide +kernel), tb0 13 (by decide +kernel), ⟨by decide +kernel, by decide +kernel, by decide +kernel⟩, by decide +kernel⟩
theorem imM_pass : Cond.instanceMethod (nmT nM_pass) ∈ gtb := tb6 151 (by decide +kernel)
theorem seM_pass : Cond.selects (nmT nM_pass).cls (nmT nM_pass) (nmT nM_pass) ∈ gtb := tbS 90 (by decide +kernel)
theorem mlM_keep : ML nM_keep 0 := ⟨tb6 125 (by decide +kernel), tb0 13 (by decide +kernel), ⟨by decide +kernel, by decide +kernel, by decide +kernel⟩, by decide +kernel⟩
theorem imM_keep : Cond.instanceMethod (nmT nM_keep) ∈ gtb := tb6 124 (by decide +kernel)
theorem seM_keep : Cond.selects (nmT nM_keep).cls (nmT nM_keep) (nmT nM_keep) ∈ gtb := tbS 86 (by decide +kernel)
theorem mlM_undo : ML nM_undo 0 := ⟨tb6 101 (by decide +kernel), tb0 13 (by decide +kernel), ⟨by decide +kernel, by decide +kernel, by decide +kernel⟩, by decide +kernel⟩
theorem imM_undo : Cond.instanceMethod (nmT nM_undo) ∈ gtb := tb6 99 (by decide +kernel)
theorem seM_undo : Cond.selects (nmT nM_undo).cls (nmT nM_undo) (nmT nM_undo) ∈ gtb := tb6 100 (by decide +kernel)
theorem mlM_canPay : ML nM_canPay 3 := ⟨tb6 113 (by decide +kernel), tb0 13 (by decide +kernel), ⟨by decide +kernel, by decide +kernel, by decide +kernel⟩, by decide +kernel⟩
theorem imM_canPay : Cond.instanceMethod (nmT nM_canPay) ∈ gtb := tb6 112 (by decide +kernel)
theorem seM_canPay : Cond.selects (nmT nM_canPay).cls (nmT nM_canPay) (nmT nM_canPay) ∈ gtb := tbS 83 (by decide +kernel)
theorem mlM_payNow : ML nM_payNow 3 := ⟨tb6 129 (by decide +kernel), tb0 13 (by decide +kernel), ⟨by decide +kernel, by decide +kernel, by decide +kernel⟩, by decide +kernel⟩
theorem imM_payNow : Cond.instanceMethod (nmT nM_payNow) ∈ gtb := tb6 128 (by decide +kernel)
theorem seM_payNow : Cond.selects (nmT nM_payNow).cls (nmT nM_payNow) (nmT nM_payNow) ∈ gtb := tbS 87 (by decide +kernel)
theorem mlM_pay : ML nM_pay 3 := ⟨tb6 109 (by decide +kernel), tb0 13 (by decide +kernel), ⟨by decide +kernel, by decide +kernel, by decide +kernel⟩, by decide +kernel⟩
theorem imM_pay : Cond.instanceMethod (nmT nM_pay) ∈ gtb := tb6 107 (by decide +kernel)
theorem seM_pay : Cond.selects (nmT nM_pay).cls (nmT nM_pay) (nmT nM_pay) ∈ gtb := tb6 108 (by decide +kernel)
theorem mlM_mergeNow : ML nM_mergeNow 2 := ⟨tb6 137 (by decide +kernel), tb0 13 (by decide +kernel), ⟨by decide +kernel, by decide +kernel, by decide +kernel⟩, by decide +kernel⟩
theorem imM_mergeNow : Cond.instanceMethod (nmT nM_mergeNow) ∈ gtb := tb6 136 (by decide +kernel)
theorem seM_mergeNow : Cond.selects (nmT nM_mergeNow).cls (nmT nM_mergeNow) (nmT nM_mergeNow) ∈ gtb := tbS 88 (by decide +kernel)
theorem mlM_merge : ML nM_merge 2 := ⟨tb6 133 (by decide +kernel), tb0 13 (by decide +kernel), ⟨by decide +kernel, by decide +kernel, by decide +kernel⟩, by decide +kernel⟩
theorem imM_merge : Cond.instanceMethod (nmT nM_merge) ∈ gtb := tb6 131 (by decide +kernel)
theorem seM_merge : Cond.selects (nmT nM_merge).cls (nmT nM_merge) (nmT nM_merge) ∈ gtb := tb6 132 (by decide +kernel)
theorem mlM_arePassed : ML nM_arePassed 1 := ⟨tb6 148 (by decide +kernel), tb0 13 (by decide +kernel), ⟨by decide +kernel, by decide +kernel, by decide +kernel⟩, by decide +kernel⟩
theorem imM_arePassed : Cond.instanceMethod (nmT nM_arePassed) ∈ gtb := tb6 147 (by decide +kernel)
theorem seM_arePassed : Cond.selects (nmT nM_arePassed).cls (nmT nM_arePassed) (nmT nM_arePassed) ∈ gtb := tbS 89 (by decide +kernel)
theorem mlM_day : ML nM_day 1 := ⟨tb6 144 (by decide +kernel), tb0 13 (by decide +kernel), ⟨by decide +kernel, by decide +kernel, by decide +kernel⟩, by decide +kernel⟩
theorem imM_day : Cond.instanceMethod (nmT nM_day) ∈ gtb := tb6 142 (by decide +kernel)
theorem seM_day : Cond.selects (nmT nM_day).cls (nmT nM_day) (nmT nM_day) ∈ gtb := tb6 143 (by decide +kernel)
theorem mlM_isPlayed : ML nM_isPlayed 1 := ⟨tb7 15 (by decide +kernel), tb0 13 (by decide +kernel), ⟨by decide +kernel, by decide +kernel, by decide +kernel⟩, by decide +kernel⟩
theorem imM_isPlayed : Cond.instanceMethod (nmT nM_isPlayed) ∈ gtb := tb7 14 (by decide +kernel)
theorem seM_isPlayed : Cond.selects (nmT nM_isPlayed).cls (nmT nM_isPlayed) (nmT nM_isPlayed) ∈ gtb := tbS 109 (by decide +kernel)
theorem mlM_played : ML nM_played 1 := ⟨tb7 11 (by decide +kernel), tb0 13 (by decide +kernel), ⟨by decide +kernel, by decide +kernel, by decide +kernel⟩, by decide +kernel⟩
theorem imM_played : Cond.instanceMethod (nmT nM_played) ∈ gtb := tb7 9 (by decide +kernel)
theorem seM_played : Cond.selects (nmT nM_played).cls (nmT nM_played) (nmT nM_played) ∈ gtb := tb7 10 (by decide +kernel)
theorem mlM_happens : ML nM_happens 1 := ⟨tb7 28 (by decide +kernel), tb0 13 (by decide +kernel), ⟨by decide +kernel, by decide +kernel, by decide +kernel⟩, by decide +kernel⟩
theorem imM_happens : Cond.instanceMethod (nmT nM_happens) ∈ gtb := tb7 27 (by decide +kernel)
theorem seM_happens : Cond.selects (nmT nM_happens).cls (nmT nM_happens) (nmT nM_happens) ∈ gtb := tbS 110 (by decide +kernel)
theorem mlM_years : ML nM_years 2 := ⟨tb7 24 (by decide +kernel), tb0 13 (by decide +kernel), ⟨by decide +kernel, by decide +kernel, by decide +kernel⟩, by decide +kernel⟩
theorem imM_years : Cond.instanceMethod (nmT nM_years) ∈ gtb := tb7 22 (by decide +kernel)
theorem seM_years : Cond.selects (nmT nM_years).cls (nmT nM_years) (nmT nM_years) ∈ gtb := tb7 23 (by decide +kernel)
theorem mlM_ofWind : ML nM_ofWind 2 := ⟨tb7 32 (by decide +kernel), tb0 13 (by decide +kernel), ⟨by decide +kernel, by decide +kernel, by decide +kernel⟩, by decide +kernel⟩
theorem imM_ofWind : Cond.instanceMethod (nmT nM_ofWind) ∈ gtb := tb7 30 (by decide +kernel)
theorem seM_ofWind : Cond.selects (nmT nM_ofWind).cls (nmT nM_ofWind) (nmT nM_ofWind) ∈ gtb := tb7 31 (by decide +kernel)
theorem mlM_ofVillage : ML nM_ofVillage 2 := ⟨tb7 36 (by decide +kernel), tb0 13 (by decide +kernel), ⟨by decide +kernel, by decide +kernel, by decide +kernel⟩, by decide +kernel⟩
theorem imM_ofVillage : Cond.instanceMethod (nmT nM_ofVillage) ∈ gtb := tb7 34 (by decide +kernel)
theorem seM_ofVillage : Cond.selects (nmT nM_ofVillage).cls (nmT nM_ofVillage) (nmT nM_ofVillage) ∈ gtb := tb7 35 (by decide +kernel)
theorem mlM_takes : ML nM_takes 3 := ⟨tb7 40 (by decide +kernel), tb0 13 (by decide +kernel), ⟨by decide +kernel, by decide +kernel, by decide +kernel⟩, by decide +kernel⟩
theorem imM_takes : Cond.instanceMethod (nmT nM_takes) ∈ gtb := tb7 38 (by decide +kernel)
theorem seM_takes : Cond.selects (nmT nM_takes).cls (nmT nM_takes) (nmT nM_takes) ∈ gtb := tb7 39 (by decide +kernel)
theorem mlM_catches : ML nM_catches 3 := ⟨tb7 44 (by decide +kernel), tb0 13 (by decide +kernel), ⟨by decide +kernel, by decide +kernel, by decide +kernel⟩, by decide +kernel⟩
theorem imM_catches : Cond.instanceMethod (nmT nM_catches) ∈ gtb := tb7 42 (by decide +kernel)
theorem seM_catches : Cond.selects (nmT nM_catches).cls (nmT nM_catches) (nmT nM_catches) ∈ gtb := tb7 43 (by decide +kernel)
theorem mlM_is : ML nM_is 1 := ⟨tb7 48 (by decide +kernel), tb0 13 (by decide +kernel), ⟨by decide +kernel, by decide +kernel, by decide +kernel⟩, by decide +kernel⟩
theorem imM_is : Cond.instanceMethod (nmT nM_is) ∈ gtb := tb7 46 (by decide +kernel)
theorem seM_is : Cond.selects (nmT nM_is).cls (nmT nM_is) (nmT nM_is) ∈ gtb := tb7 47 (by decide +kernel)
theorem mlM_shown : ML nM_shown 0 := ⟨tb7 56 (by decide +kernel), tb0 13 (by decide +kernel), ⟨by decide +kernel, by decide +kernel, by decide +kernel⟩, by decide +kernel⟩
theorem imM_shown : Cond.instanceMethod (nmT nM_shown) ∈ gtb := tb7 55 (by decide +kernel)
theorem seM_shown : Cond.selects (nmT nM_shown).cls (nmT nM_shown) (nmT nM_shown) ∈ gtb := tbS 111 (by decide +kernel)
theorem mlM_entry : ML nM_entry 2 := ⟨tb7 60 (by decide +kernel), tb0 13 (by decide +kernel), ⟨by decide +kernel, by decide +kernel, by decide +kernel⟩, by decide +kernel⟩
theorem imM_entry : Cond.instanceMethod (nmT nM_entry) ∈ gtb := tb7 59 (by decide +kernel)
theorem seM_entry : Cond.selects (nmT nM_entry).cls (nmT nM_entry) (nmT nM_entry) ∈ gtb := tbS 112 (by decide +kernel)
theorem mlM_book : ML nM_book 2 := ⟨tb7 52 (by decide +kernel), tb0 13 (by decide +kernel), ⟨by decide +kernel, by decide +kernel, by decide +kernel⟩, by decide +kernel⟩
theorem imM_book : Cond.instanceMethod (nmT nM_book) ∈ gtb := tb7 50 (by decide +kernel)
theorem seM_book : Cond.selects (nmT nM_book).cls (nmT nM_book) (nmT nM_book) ∈ gtb := tb7 51 (by decide +kernel)
theorem mlM_often : ML nM_often 1 := ⟨tb7 64 (by decide +kernel), tb0 13 (by decide +kernel), ⟨by decide +kernel, by decide +kernel, by decide +kernel⟩, by decide +kernel⟩
theorem imM_often : Cond.instanceMethod (nmT nM_often) ∈ gtb := tb7 62 (by decide +kernel)
theorem seM_often : Cond.selects (nmT nM_often).cls (nmT nM_often) (nmT nM_often) ∈ gtb := tb7 63 (by decide +kernel)
theorem mlM_worstDay : ML nM_worstDay 0 := ⟨tb7 68 (by decide +kernel), tb0 13 (by decide +kernel), ⟨by decide +kernel, by decide +kernel, by decide +kernel⟩, by decide +kernel⟩
theorem imM_worstDay : Cond.instanceMethod (nmT nM_worstDay) ∈ gtb := tb7 66 (by decide +kernel)
theorem seM_worstDay : Cond.selects (nmT nM_worstDay).cls (nmT nM_worstDay) (nmT nM_worstDay) ∈ gtb := tb7 67 (by decide +kernel)
theorem mlM_strongest : ML nM_strongest 0 := ⟨tb7 72 (by decide +kernel), tb0 13 (by decide +kernel), ⟨by decide +kernel, by decide +kernel, by decide +kernel⟩, by decide +kernel⟩
theorem imM_strongest : Cond.instanceMethod (nmT nM_strongest) ∈ gtb := tb7 70 (by decide +kernel)
theorem seM_strongest : Cond.selects (nmT nM_strongest).cls (nmT nM_strongest) (nmT nM_strongest) ∈ gtb := tb7 71 (by decide +kernel)
theorem mlM_richest : ML nM_richest 0 := ⟨tb7 76 (by decide +kernel), tb0 13 (by decide +kernel), ⟨by decide +kernel, by decide +kernel, by decide +kernel⟩, by decide +kernel⟩
theorem imM_richest : Cond.instanceMethod (nmT nM_richest) ∈ gtb := tb7 74 (by decide +kernel)
theorem seM_richest : Cond.selects (nmT nM_richest).cls (nmT nM_richest) (nmT nM_richest) ∈ gtb := tb7 75 (by decide +kernel)
theorem mlM_setAside : ML nM_setAside 0 := ⟨tb7 92 (by decide +kernel), tb0 13 (by decide +kernel), ⟨by decide +kernel, by decide +kernel, by decide +kernel⟩, by decide +kernel⟩
theorem imM_setAside : Cond.instanceMethod (nmT nM_setAside) ∈ gtb := tb7 91 (by decide +kernel)
theorem seM_setAside : Cond.selects (nmT nM_setAside).cls (nmT nM_setAside) (nmT nM_setAside) ∈ gtb := tbS 115 (by decide +kernel)
theorem mlM_putBack : ML nM_putBack 0 := ⟨tb7 100 (by decide +kernel), tb0 13 (by decide +kernel), ⟨by decide +kernel, by decide +kernel, by decide +kernel⟩, by decide +kernel⟩
theorem imM_putBack : Cond.instanceMethod (nmT nM_putBack) ∈ gtb := tb7 99 (by decide +kernel)
theorem seM_putBack : Cond.selects (nmT nM_putBack).cls (nmT nM_putBack) (nmT nM_putBack) ∈ gtb := tbS 117 (by decide +kernel)
theorem mlM_goOn : ML nM_goOn 0 := ⟨tb7 96 (by decide +kernel), tb0 13 (by decide +kernel), ⟨by decide +kernel, by decide +kernel, by decide +kernel⟩, by decide +kernel⟩
theorem imM_goOn : Cond.instanceMethod (nmT nM_goOn) ∈ gtb := tb7 95 (by decide +kernel)
theorem seM_goOn : Cond.selects (nmT nM_goOn).cls (nmT nM_goOn) (nmT nM_goOn) ∈ gtb := tbS 116 (by decide +kernel)
theorem mlM_behind : ML nM_behind 2 := ⟨tb7 88 (by decide +kernel), tb0 13 (by decide +kernel), ⟨by decide +kernel, by decide +kernel, by decide +kernel⟩, by decide +kernel⟩
theorem imM_behind : Cond.instanceMethod (nmT nM_behind) ∈ gtb := tb7 87 (by decide +kernel)
theorem seM_behind : Cond.selects (nmT nM_behind).cls (nmT nM_behind) (nmT nM_behind) ∈ gtb := tbS 114 (by decide +kernel)
theorem mlM_takenIn : ML nM_takenIn 1 := ⟨tb7 84 (by decide +kernel), tb0 13 (by decide +kernel), ⟨by decide +kernel, by decide +kernel, by decide +kernel⟩, by decide +kernel⟩
theorem imM_takenIn : Cond.instanceMethod (nmT nM_takenIn) ∈ gtb := tb7 83 (by decide +kernel)
theorem seM_takenIn : Cond.selects (nmT nM_takenIn).cls (nmT nM_takenIn) (nmT nM_takenIn) ∈ gtb := tbS 113 (by decide +kernel)
theorem mlM_foretold : ML nM_foretold 1 := ⟨tb7 80 (by decide +kernel), tb0 13 (by decide +kernel), ⟨by decide +kernel, by decide +kernel, by decide +kernel⟩, by decide +kernel⟩
theorem imM_foretold : Cond.instanceMethod (nmT nM_foretold) ∈ gtb := tb7 78 (by decide +kernel)
theorem seM_foretold : Cond.selects (nmT nM_foretold).cls (nmT nM_foretold) (nmT nM_foretold) ∈ gtb := tb7 79 (by decide +kernel)
theorem mlM_purse : ML nM_purse 2 := ⟨tb7 104 (by decide +kernel), tb0 13 (by decide +kernel), ⟨by decide +kernel, by decide +kernel, by decide +kernel⟩, by decide +kernel⟩
theorem imM_purse : Cond.instanceMethod (nmT nM_purse) ∈ gtb := tb7 102 (by decide +kernel)
theorem seM_purse : Cond.selects (nmT nM_purse).cls (nmT nM_purse) (nmT nM_purse) ∈ gtb := tb7 103 (by decide +kernel)
theorem mlM_owed : ML nM_owed 2 := ⟨tb7 108 (by decide +kernel), tb0 13 (by decide +kernel), ⟨by decide +kernel, by decide +kernel, by decide +kernel⟩, by decide +kernel⟩
theorem imM_owed : Cond.instanceMethod (nmT nM_owed) ∈ gtb := tb7 106 (by decide +kernel)
theorem seM_owed : Cond.selects (nmT nM_owed).cls (nmT nM_owed) (nmT nM_owed) ∈ gtb := tb7 107 (by decide +kernel)
theorem mlM_isInArrears : ML nM_isInArrears 0 := ⟨tb7 116 (by decide +kernel), tb0 13 (by decide +kernel), ⟨by decide +kernel, by decide +kernel, by decide +kernel⟩, by decide +kernel⟩
theorem imM_isInArrears : Cond.instanceMethod (nmT nM_isInArrears) ∈ gtb := tb7 115 (by decide +kernel)
theorem seM_isInArrears : Cond.selects (nmT nM_isInArrears).cls (nmT nM_isInArrears) (nmT nM_isInArrears) ∈ gtb := tbS 118 (by decide +kernel)
theorem mlM_arrears : ML nM_arrears 0 := ⟨tb7 112 (by decide +kernel), tb0 13 (by decide +kernel), ⟨by decide +kernel, by decide +kernel, by decide +kernel⟩, by decide +kernel⟩
theorem imM_arrears : Cond.instanceMethod (nmT nM_arrears) ∈ gtb := tb7 110 (by decide +kernel)
theorem seM_arrears : Cond.selects (nmT nM_arrears).cls (nmT nM_arrears) (nmT nM_arrears) ∈ gtb := tb7 111 (by decide +kernel)
theorem mlM_broke : ML nM_broke 1 := ⟨tb7 120 (by decide +kernel), tb0 13 (by decide +kernel), ⟨by decide +kernel, by decide +kernel, by decide +kernel⟩, by decide +kernel⟩
theorem imM_broke : Cond.instanceMethod (nmT nM_broke) ∈ gtb := tb7 118 (by decide +kernel)
theorem seM_broke : Cond.selects (nmT nM_broke).cls (nmT nM_broke) (nmT nM_broke) ∈ gtb := tb7 119 (by decide +kernel)
theorem mlM_whose : ML nM_whose 1 := ⟨tb7 124 (by decide +kernel), tb0 13 (by decide +kernel), ⟨by decide +kernel, by decide +kernel, by decide +kernel⟩, by decide +kernel⟩
theorem imM_whose : Cond.instanceMethod (nmT nM_whose) ∈ gtb := tb7 122 (by decide +kernel)
theorem seM_whose : Cond.selects (nmT nM_whose).cls (nmT nM_whose) (nmT nM_whose) ∈ gtb := tb7 123 (by decide +kernel)
theorem mlM_calms : ML nM_calms 2 := ⟨tb7 129 (by decide +kernel), tb0 13 (by decide +kernel), ⟨by decide +kernel, by decide +kernel, by decide +kernel⟩, by decide +kernel⟩
theorem imM_calms : Cond.instanceMethod (nmT nM_calms) ∈ gtb := tb7 127 (by decide +kernel)
theorem seM_calms : Cond.selects (nmT nM_calms).cls (nmT nM_calms) (nmT nM_calms) ∈ gtb := tb7 128 (by decide +kernel)
theorem mlM_common : ML nM_common 2 := ⟨tb7 140 (by decide +kernel), tb0 13 (by decide +kernel), ⟨by decide +kernel, by decide +kernel, by decide +kernel⟩, by decide +kernel⟩
theorem stM_common : Cond.static (nmT nM_common) ∈ gtb := tb7 139 (by decide +kernel)
theorem mlM_part : ML nM_part 3 := ⟨tb7 137 (by decide +kernel), tb0 13 (by decide +kernel), ⟨by decide +kernel, by decide +kernel, by decide +kernel⟩, by decide +kernel⟩
theorem stM_part : Cond.static (nmT nM_part) ∈ gtb := tb7 136 (by decide +kernel)
theorem mlM_odds : ML nM_odds 3 := ⟨tb7 133 (by decide +kernel), tb0 13 (by decide +kernel), ⟨by decide +kernel, by decide +kernel, by decide +kernel⟩, by decide +kernel⟩
theorem imM_odds : Cond.instanceMethod (nmT nM_odds) ∈ gtb := tb7 131 (by decide +kernel)
theorem seM_odds : Cond.selects (nmT nM_odds).cls (nmT nM_odds) (nmT nM_odds) ∈ gtb := tb7 132 (by decide +kernel)
theorem mlM_owedBy : ML nM_owedBy 2 := ⟨tb7 148 (by decide +kernel), tb0 13 (by decide +kernel), ⟨by decide +kernel, by decide +kernel, by decide +kernel⟩, by decide +kernel⟩
theorem imM_owedBy : Cond.instanceMethod (nmT nM_owedBy) ∈ gtb := tb7 147 (by decide +kernel)
theorem seM_owedBy : Cond.selects (nmT nM_owedBy).cls (nmT nM_owedBy) (nmT nM_owedBy) ∈ gtb := tbS 119 (by decide +kernel)
theorem mlM_takenBy : ML nM_takenBy 2 := ⟨tb7 152 (by decide +kernel), tb0 13 (by decide +kernel), ⟨by decide +kernel, by decide +kernel, by decide +kernel⟩, by decide +kernel⟩
theorem imM_takenBy : Cond.instanceMethod (nmT nM_takenBy) ∈ gtb := tb7 151 (by decide +kernel)
theorem seM_takenBy : Cond.selects (nmT nM_takenBy).cls (nmT nM_takenBy) (nmT nM_takenBy) ∈ gtb := tbS 120 (by decide +kernel)
theorem mlM_least : ML nM_least 3 := ⟨tb7 144 (by decide +kernel), tb0 13 (by decide +kernel), ⟨by decide +kernel, by decide +kernel, by decide +kernel⟩, by decide +kernel⟩
theorem imM_least : Cond.instanceMethod (nmT nM_least) ∈ gtb := tb7 142 (by decide +kernel)
theorem seM_least : Cond.selects (nmT nM_least).cls (nmT nM_least) (nmT nM_least) ∈ gtb := tb7 143 (by decide +kernel)
theorem mlM_nextRow : ML nM_nextRow 1 := ⟨tb7 167 (by decide +kernel), tb0 13 (by decide +kernel), ⟨by decide +kernel, by decide +kernel, by decide +kernel⟩, by decide +kernel⟩
theorem imM_nextRow : Cond.instanceMethod (nmT nM_nextRow) ∈ gtb := tb7 166 (by decide +kernel)
theorem seM_nextRow : Cond.selects (nmT nM_nextRow).cls (nmT nM_nextRow) (nmT nM_nextRow) ∈ gtb := tbS 122 (by decide +kernel)
theorem mlM_added : ML nM_added 2 := ⟨tb7 163 (by decide +kernel), tb0 13 (by decide +kernel), ⟨by decide +kernel, by decide +kernel, by decide +kernel⟩, by decide +kernel⟩
theorem imM_added : Cond.instanceMethod (nmT nM_added) ∈ gtb := tb7 162 (by decide +kernel)
theorem seM_added : Cond.selects (nmT nM_added).cls (nmT nM_added) (nmT nM_added) ∈ gtb := tbS 121 (by decide +kernel)
theorem mlM_share : ML nM_share 5 := ⟨tb7 156 (by decide +kernel), tb0 13 (by decide +kernel), ⟨by decide +kernel, by decide +kernel, by decide +kernel⟩, by decide +kernel⟩
theorem imM_share : Cond.instanceMethod (nmT nM_share) ∈ gtb := tb7 154 (by decide +kernel)
theorem seM_share : Cond.selects (nmT nM_share).cls (nmT nM_share) (nmT nM_share) ∈ gtb := tb7 155 (by decide +kernel)
theorem mlM_laySpeeds : ML nM_laySpeeds 0 := ⟨tb7 175 (by decide +kernel), tb0 13 (by decide +kernel), ⟨by decide +kernel, by decide +kernel, by decide +kernel⟩, by decide +kernel⟩
theorem imM_laySpeeds : Cond.instanceMethod (nmT nM_laySpeeds) ∈ gtb := tb7 174 (by decide +kernel)
theorem seM_laySpeeds : Cond.selects (nmT nM_laySpeeds).cls (nmT nM_laySpeeds) (nmT nM_laySpeeds) ∈ gtb := tbS 123 (by decide +kernel)
theorem mlM_reached : ML nM_reached 2 := ⟨tb7 183 (by decide +kernel), tb0 13 (by decide +kernel), ⟨by decide +kernel, by decide +kernel, by decide +kernel⟩, by decide +kernel⟩
theorem imM_reached : Cond.instanceMethod (nmT nM_reached) ∈ gtb := tb7 182 (by decide +kernel)
theorem seM_reached : Cond.selects (nmT nM_reached).cls (nmT nM_reached) (nmT nM_reached) ∈ gtb := tbS 125 (by decide +kernel)
theorem mlM_arrival : ML nM_arrival 2 := ⟨tb7 179 (by decide +kernel), tb0 13 (by decide +kernel), ⟨by decide +kernel, by decide +kernel, by decide +kernel⟩, by decide +kernel⟩
theorem imM_arrival : Cond.instanceMethod (nmT nM_arrival) ∈ gtb := tb7 178 (by decide +kernel)
theorem seM_arrival : Cond.selects (nmT nM_arrival).cls (nmT nM_arrival) (nmT nM_arrival) ∈ gtb := tbS 124 (by decide +kernel)
theorem mlM_voyage : ML nM_voyage 3 := ⟨tb7 171 (by decide +kernel), tb0 13 (by decide +kernel), ⟨by decide +kernel, by decide +kernel, by decide +kernel⟩, by decide +kernel⟩
theorem imM_voyage : Cond.instanceMethod (nmT nM_voyage) ∈ gtb := tb7 169 (by decide +kernel)
theorem seM_voyage : Cond.selects (nmT nM_voyage).cls (nmT nM_voyage) (nmT nM_voyage) ∈ gtb := tb7 170 (by decide +kernel)
theorem mlM_took : ML nM_took 2 := ⟨tb7 187 (by decide +kernel), tb0 13 (by decide +kernel), ⟨by decide +kernel, by decide +kernel, by decide +kernel⟩, by decide +kernel⟩
theorem imM_took : Cond.instanceMethod (nmT nM_took) ∈ gtb := tb7 185 (by decide +kernel)
theorem seM_took : Cond.selects (nmT nM_took).cls (nmT nM_took) (nmT nM_took) ∈ gtb := tb7 186 (by decide +kernel)
theorem mlM_isFitting : ML nM_isFitting 2 := ⟨tb7 199 (by decide +kernel), tb0 13 (by decide +kernel), ⟨by decide +kernel, by decide +kernel, by decide +kernel⟩, by decide +kernel⟩
theorem imM_isFitting : Cond.instanceMethod (nmT nM_isFitting) ∈ gtb := tb7 198 (by decide +kernel)
theorem seM_isFitting : Cond.selects (nmT nM_isFitting).cls (nmT nM_isFitting) (nmT nM_isFitting) ∈ gtb := tbS 127 (by decide +kernel)
theorem mlM_strengthsOf : ML nM_strengthsOf 1 := ⟨tb7 195 (by decide +kernel), tb0 13 (by decide +kernel), ⟨by decide +kernel, by decide +kernel, by decide +kernel⟩, by decide +kernel⟩
theorem imM_strengthsOf : Cond.instanceMethod (nmT nM_strengthsOf) ∈ gtb := tb7 194 (by decide +kernel)
theorem seM_strengthsOf : Cond.selects (nmT nM_strengthsOf).cls (nmT nM_strengthsOf) (nmT nM_strengthsOf) ∈ gtb := tbS 126 (by decide +kernel)
theorem mlM_whoseWind : ML nM_whoseWind 0 := ⟨tb7 191 (by decide +kernel), tb0 13 (by decide +kernel), ⟨by decide +kernel, by decide +kernel, by decide +kernel⟩, by decide +kernel⟩
theorem imM_whoseWind : Cond.instanceMethod (nmT nM_whoseWind) ∈ gtb := tb7 189 (by decide +kernel)
theorem seM_whoseWind : Cond.selects (nmT nM_whoseWind).cls (nmT nM_whoseWind) (nmT nM_whoseWind) ∈ gtb := tb7 190 (by decide +kernel)
theorem mlM_strengths : ML nM_strengths 1 := ⟨tb7 203 (by decide +kernel), tb0 13 (by decide +kernel), ⟨by decide +kernel, by decide +kernel, by decide +kernel⟩, by decide +kernel⟩
theorem imM_strengths : Cond.instanceMethod (nmT nM_strengths) ∈ gtb := tb7 201 (by decide +kernel)
theorem seM_strengths : Cond.selects (nmT nM_strengths).cls (nmT nM_strengths) (nmT nM_strengths) ∈ gtb := tb7 202 (by decide +kernel)
theorem mlM_answers : ML nM_answers 1 := ⟨tb7 215 (by decide +kernel), tb0 13 (by decide +kernel), ⟨by decide +kernel, by decide +kernel, by decide +kernel⟩, by decide +kernel⟩
theorem imM_answers : Cond.instanceMethod (nmT nM_answers) ∈ gtb := tb7 214 (by decide +kernel)
theorem seM_answers : Cond.selects (nmT nM_answers).cls (nmT nM_answers) (nmT nM_answers) ∈ gtb := tbS 129 (by decide +kernel)
theorem mlM_isRead : ML nM_isRead 1 := ⟨tb7 211 (by decide +kernel), tb0 13 (by decide +kernel), ⟨by decide +kernel, by decide +kernel, by decide +kernel⟩, by decide +kernel⟩
theorem imM_isRead : Cond.instanceMethod (nmT nM_isRead) ∈ gtb := tb7 210 (by decide +kernel)
theorem seM_isRead : Cond.selects (nmT nM_isRead).cls (nmT nM_isRead) (nmT nM_isRead) ∈ gtb := tbS 128 (by decide +kernel)
theorem mlM_vane : ML nM_vane 0 := ⟨tb7 207 (by decide +kernel), tb0 13 (by decide +kernel), ⟨by decide +kernel, by decide +kernel, by decide +kernel⟩, by decide +kernel⟩
theorem imM_vane : Cond.instanceMethod (nmT nM_vane) ∈ gtb := tb7 205 (by decide +kernel)
theorem seM_vane : Cond.selects (nmT nM_vane).cls (nmT nM_vane) (nmT nM_vane) ∈ gtb := tb7 206 (by decide +kernel)
theorem mlM_sail : ML nM_sail 1 := ⟨tb7 219 (by decide +kernel), tb0 13 (by decide +kernel), ⟨by decide +kernel, by decide +kernel, by decide +kernel⟩, by decide +kernel⟩
theorem imM_sail : Cond.instanceMethod (nmT nM_sail) ∈ gtb := tb7 217 (by decide +kernel)
theorem seM_sail : Cond.selects (nmT nM_sail).cls (nmT nM_sail) (nmT nM_sail) ∈ gtb := tb7 218 (by decide +kernel)
theorem mlM_paymentOf : ML nM_paymentOf 2 := ⟨tb7 234 (by decide +kernel), tb0 13 (by decide +kernel), ⟨by decide +kernel, by decide +kernel, by decide +kernel⟩, by decide +kernel⟩
theorem stM_paymentOf : Cond.static (nmT nM_paymentOf) ∈ gtb := tb7 233 (by decide +kernel)
theorem mlM_isTorn : ML nM_isTorn 3 := ⟨tb7 231 (by decide +kernel), tb0 13 (by decide +kernel), ⟨by decide +kernel, by decide +kernel, by decide +kernel⟩, by decide +kernel⟩
theorem imM_isTorn : Cond.instanceMethod (nmT nM_isTorn) ∈ gtb := tb7 230 (by decide +kernel)
theorem seM_isTorn : Cond.selects (nmT nM_isTorn).cls (nmT nM_isTorn) (nmT nM_isTorn) ∈ gtb := tbS 131 (by decide +kernel)
theorem mlM_canTear : ML nM_canTear 2 := ⟨tb7 227 (by decide +kernel), tb0 13 (by decide +kernel), ⟨by decide +kernel, by decide +kernel, by decide +kernel⟩, by decide +kernel⟩
theorem imM_canTear : Cond.instanceMethod (nmT nM_canTear) ∈ gtb := tb7 226 (by decide +kernel)
theorem seM_canTear : Cond.selects (nmT nM_canTear).cls (nmT nM_canTear) (nmT nM_canTear) ∈ gtb := tbS 130 (by decide +kernel)
theorem mlM_sails : ML nM_sails 2 := ⟨tb7 223 (by decide +kernel), tb0 13 (by decide +kernel), ⟨by decide +kernel, by decide +kernel, by decide +kernel⟩, by decide +kernel⟩
theorem imM_sails : Cond.instanceMethod (nmT nM_sails) ∈ gtb := tb7 221 (by decide +kernel)
theorem seM_sails : Cond.selects (nmT nM_sails).cls (nmT nM_sails) (nmT nM_sails) ∈ gtb := tb7 222 (by decide +kernel)
theorem mlM_sure : ML nM_sure 3 := ⟨tb7 238 (by decide +kernel), tb0 13 (by decide +kernel), ⟨by decide +kernel, by decide +kernel, by decide +kernel⟩, by decide +kernel⟩
theorem imM_sure : Cond.instanceMethod (nmT nM_sure) ∈ gtb := tb7 236 (by decide +kernel)
theorem seM_sure : Cond.selects (nmT nM_sure).cls (nmT nM_sure) (nmT nM_sure) ∈ gtb := tb7 237 (by decide +kernel)
theorem mlM_kind : ML nM_kind 1 := ⟨tb8 2 (by decide +kernel), tb0 13 (by decide +kernel), ⟨by decide +kernel, by decide +kernel, by decide +kernel⟩, by decide +kernel⟩
theorem imM_kind : Cond.instanceMethod (nmT nM_kind) ∈ gtb := tb8 0 (by decide +kernel)
theorem seM_kind : Cond.selects (nmT nM_kind).cls (nmT nM_kind) (nmT nM_kind) ∈ gtb := tb8 1 (by decide +kernel)
theorem mlM_layPieces : ML nM_layPieces 1 := ⟨tb8 10 (by decide +kernel), tb0 13 (by decide +kernel), ⟨by decide +kernel, by decide +kernel, by decide +kernel⟩, by decide +kernel⟩
theorem imM_layPieces : Cond.instanceMethod (nmT nM_layPieces) ∈ gtb := tb8 9 (by decide +kernel)
theorem seM_layPieces : Cond.selects (nmT nM_layPieces).cls (nmT nM_layPieces) (nmT nM_layPieces) ∈ gtb := tbS 132 (by decide +kernel)
theorem mlM_inKind : ML nM_inKind 2 := ⟨tb8 6 (by decide +kernel), tb0 13 (by decide +kernel), ⟨by decide +kernel, by decide +kernel, by decide +kernel⟩, by decide +kernel⟩
theorem imM_inKind : Cond.instanceMethod (nmT nM_inKind) ∈ gtb := tb8 4 (by decide +kernel)
theorem seM_inKind : Cond.selects (nmT nM_inKind).cls (nmT nM_inKind) (nmT nM_inKind) ∈ gtb := tb8 5 (by decide +kernel)
theorem mlM_image : ML nM_image 0 := ⟨tb8 14 (by decide +kernel), tb0 13 (by decide +kernel), ⟨by decide +kernel, by decide +kernel, by decide +kernel⟩, by decide +kernel⟩
theorem imM_image : Cond.instanceMethod (nmT nM_image) ∈ gtb := tb8 12 (by decide +kernel)
theorem seM_image : Cond.selects (nmT nM_image).cls (nmT nM_image) (nmT nM_image) ∈ gtb := tb8 13 (by decide +kernel)
theorem mlM_back : ML nM_back 0 := ⟨tb8 18 (by decide +kernel), tb0 13 (by decide +kernel), ⟨by decide +kernel, by decide +kernel, by decide +kernel⟩, by decide +kernel⟩
theorem imM_back : Cond.instanceMethod (nmT nM_back) ∈ gtb := tb8 16 (by decide +kernel)
theorem seM_back : Cond.selects (nmT nM_back).cls (nmT nM_back) (nmT nM_back) ∈ gtb := tb8 17 (by decide +kernel)
theorem mlM_about : ML nM_about 1 := ⟨tb8 22 (by decide +kernel), tb0 13 (by decide +kernel), ⟨by decide +kernel, by decide +kernel, by decide +kernel⟩, by decide +kernel⟩
theorem imM_about : Cond.instanceMethod (nmT nM_about) ∈ gtb := tb8 20 (by decide +kernel)
theorem seM_about : Cond.selects (nmT nM_about).cls (nmT nM_about) (nmT nM_about) ∈ gtb := tb8 21 (by decide +kernel)
theorem mlC_init : ML nC_init 0 := ⟨tb0 208 (by decide +kernel), tb0 7 (by decide +kernel), ⟨by decide +kernel, by decide +kernel, by decide +kernel⟩, by decide +kernel⟩
theorem imC_init : Cond.instanceMethod (nmT nC_init) ∈ gtb := tb0 207 (by decide +kernel)
theorem mlC_count : ML nC_count 3 := ⟨tb4 207 (by decide +kernel), tb0 7 (by decide +kernel), ⟨by decide +kernel, by decide +kernel, by decide +kernel⟩, by decide +kernel⟩
theorem imC_count : Cond.instanceMethod (nmT nC_count) ∈ gtb := tb4 205 (by decide +kernel)
theorem seC_count : Cond.selects (nmT nC_count).cls (nmT nC_count) (nmT nC_count) ∈ gtb := tb4 206 (by decide +kernel)
theorem mlC_piecesOf : ML nC_piecesOf 3 := ⟨tb4 211 (by decide +kernel), tb0 7 (by decide +kernel), ⟨by decide +kernel, by decide +kernel, by decide +kernel⟩, by decide +kernel⟩
theorem imC_piecesOf : Cond.instanceMethod (nmT nC_piecesOf) ∈ gtb := tb4 209 (by decide +kernel)
theorem seC_piecesOf : Cond.selects (nmT nC_piecesOf).cls (nmT nC_piecesOf) (nmT nC_piecesOf) ∈ gtb := tb4 210 (by decide +kernel)
theorem mlD_init : ML nD_init 2 := ⟨tb1 25 (by decide +kernel), tb0 10 (by decide +kernel), ⟨by decide +kernel, by decide +kernel, by decide +kernel⟩, by decide +kernel⟩
theorem imD_init : Cond.instanceMethod (nmT nD_init) ∈ gtb := tb1 24 (by decide +kernel)
theorem mlD_wasCalm : ML nD_wasCalm 0 := ⟨tb3 239 (by decide +kernel), tb0 10 (by decide +kernel), ⟨by decide +kernel, by decide +kernel, by decide +kernel⟩, by decide +kernel⟩
theorem imD_wasCalm : Cond.instanceMethod (nmT nD_wasCalm) ∈ gtb := tb3 237 (by decide +kernel)
theorem seD_wasCalm : Cond.selects (nmT nD_wasCalm).cls (nmT nD_wasCalm) (nmT nD_wasCalm) ∈ gtb := tb3 238 (by decide +kernel)
theorem mlD_speed : ML nD_speed 0 := ⟨tb4 97 (by decide +kernel), tb0 10 (by decide +kernel), ⟨by decide +kernel, by decide +kernel, by decide +kernel⟩, by decide +kernel⟩
theorem imD_speed : Cond.instanceMethod (nmT nD_speed) ∈ gtb := tb4 95 (by decide +kernel)
theorem seD_speed : Cond.selects (nmT nD_speed).cls (nmT nD_speed) (nmT nD_speed) ∈ gtb := tb4 96 (by decide +kernel)
theorem mlD_pass : ML nD_pass 0 := ⟨tb3 6 (by decide +kernel), tb0 10 (by decide +kernel), ⟨by decide +kernel, by decide +kernel, by decide +kernel⟩, by decide +kernel⟩
theorem imD_pass : Cond.instanceMethod (nmT nD_pass) ∈ gtb := tb3 4 (by decide +kernel)
theorem seD_pass : Cond.selects (nmT nD_pass).cls (nmT nD_pass) (nmT nD_pass) ∈ gtb := tb3 5 (by decide +kernel)
theorem mlD_drawnWind : ML nD_drawnWind 0 := ⟨tb3 61 (by decide +kernel), tb0 10 (by decide +kernel), ⟨by decide +kernel, by decide +kernel, by decide +kernel⟩, by decide +kernel⟩
theorem imD_drawnWind : Cond.instanceMethod (nmT nD_drawnWind) ∈ gtb := tb3 60 (by decide +kernel)
theorem seD_drawnWind : Cond.selects (nmT nD_drawnWind).cls (nmT nD_drawnWind) (nmT nD_drawnWind) ∈ gtb := tbS 28 (by decide +kernel)
theorem mlD_drawX : ML nD_drawX 0 := ⟨tb3 74 (by decide +kernel), tb0 10 (by decide +kernel), ⟨by decide +kernel, by decide +kernel, by decide +kernel⟩, by decide +kernel⟩
theorem imD_drawX : Cond.instanceMethod (nmT nD_drawX) ∈ gtb := tb3 73 (by decide +kernel)
theorem seD_drawX : Cond.selects (nmT nD_drawX).cls (nmT nD_drawX) (nmT nD_drawX) ∈ gtb := tbS 29 (by decide +kernel)
theorem mlD_payByHand : ML nD_payByHand 3 := ⟨tb2 189 (by decide +kernel), tb0 10 (by decide +kernel), ⟨by decide +kernel, by decide +kernel, by decide +kernel⟩, by decide +kernel⟩
theorem imD_payByHand : Cond.instanceMethod (nmT nD_payByHand) ∈ gtb := tb2 187 (by decide +kernel)
theorem seD_payByHand : Cond.selects (nmT nD_payByHand).cls (nmT nD_payByHand) (nmT nD_payByHand) ∈ gtb := tb2 188 (by decide +kernel)
theorem mlD_canPay : ML nD_canPay 3 := ⟨tb2 193 (by decide +kernel), tb0 10 (by decide +kernel), ⟨by decide +kernel, by decide +kernel, by decide +kernel⟩, by decide +kernel⟩
theorem imD_canPay : Cond.instanceMethod (nmT nD_canPay) ∈ gtb := tb2 192 (by decide +kernel)
theorem seD_canPay : Cond.selects (nmT nD_canPay).cls (nmT nD_canPay) (nmT nD_canPay) ∈ gtb := tbS 20 (by decide +kernel)
theorem mlD_payNow : ML nD_payNow 3 := ⟨tb2 213 (by decide +kernel), tb0 10 (by decide +kernel), ⟨by decide +kernel, by decide +kernel, by decide +kernel⟩, by decide +kernel⟩
theorem imD_payNow : Cond.instanceMethod (nmT nD_payNow) ∈ gtb := tb2 212 (by decide +kernel)
theorem seD_payNow : Cond.selects (nmT nD_payNow).cls (nmT nD_payNow) (nmT nD_payNow) ∈ gtb := tbS 21 (by decide +kernel)
theorem mlD_mergeByHand : ML nD_mergeByHand 2 := ⟨tb2 221 (by decide +kernel), tb0 10 (by decide +kernel), ⟨by decide +kernel, by decide +kernel, by decide +kernel⟩, by decide +kernel⟩
theorem imD_mergeByHand : Cond.instanceMethod (nmT nD_mergeByHand) ∈ gtb := tb2 219 (by decide +kernel)
theorem seD_mergeByHand : Cond.selects (nmT nD_mergeByHand).cls (nmT nD_mergeByHand) (nmT nD_mergeByHand) ∈ gtb := tb2 220 (by decide +kernel)
theorem mlD_canMerge : ML nD_canMerge 2 := ⟨tb2 225 (by decide +kernel), tb0 10 (by decide +kernel), ⟨by decide +kernel, by decide +kernel, by decide +kernel⟩, by decide +kernel⟩
theorem imD_canMerge : Cond.instanceMethod (nmT nD_canMerge) ∈ gtb := tb2 224 (by decide +kernel)
theorem seD_canMerge : Cond.selects (nmT nD_canMerge).cls (nmT nD_canMerge) (nmT nD_canMerge) ∈ gtb := tbS 22 (by decide +kernel)
theorem mlD_mergeNow : ML nD_mergeNow 2 := ⟨tb2 229 (by decide +kernel), tb0 10 (by decide +kernel), ⟨by decide +kernel, by decide +kernel, by decide +kernel⟩, by decide +kernel⟩
theorem imD_mergeNow : Cond.instanceMethod (nmT nD_mergeNow) ∈ gtb := tb2 228 (by decide +kernel)
theorem seD_mergeNow : Cond.selects (nmT nD_mergeNow).cls (nmT nD_mergeNow) (nmT nD_mergeNow) ∈ gtb := tbS 23 (by decide +kernel)
theorem mlD_passYears : ML nD_passYears 2 := ⟨tb3 122 (by decide +kernel), tb0 10 (by decide +kernel), ⟨by decide +kernel, by decide +kernel, by decide +kernel⟩, by decide +kernel⟩
theorem imD_passYears : Cond.instanceMethod (nmT nD_passYears) ∈ gtb := tb3 120 (by decide +kernel)
theorem seD_passYears : Cond.selects (nmT nD_passYears).cls (nmT nD_passYears) (nmT nD_passYears) ∈ gtb := tb3 121 (by decide +kernel)
theorem mlD_payByChance : ML nD_payByChance 1 := ⟨tb3 126 (by decide +kernel), tb0 10 (by decide +kernel), ⟨by decide +kernel, by decide +kernel, by decide +kernel⟩, by decide +kernel⟩
theorem imD_payByChance : Cond.instanceMethod (nmT nD_payByChance) ∈ gtb := tb3 125 (by decide +kernel)
theorem seD_payByChance : Cond.selects (nmT nD_payByChance).cls (nmT nD_payByChance) (nmT nD_payByChance) ∈ gtb := tbS 31 (by decide +kernel)
theorem mlD_mergeByChance : ML nD_mergeByChance 1 := ⟨tb3 130 (by decide +kernel), tb0 10 (by decide +kernel), ⟨by decide +kernel, by decide +kernel, by decide +kernel⟩, by decide +kernel⟩
theorem imD_mergeByChance : Cond.instanceMethod (nmT nD_mergeByChance) ∈ gtb := tb3 129 (by decide +kernel)
theorem seD_mergeByChance : Cond.selects (nmT nD_mergeByChance).cls (nmT nD_mergeByChance) (nmT nD_mergeByChance) ∈ gtb := tbS 32 (by decide +kernel)
theorem mlD_play : ML nD_play 1 := ⟨tb3 103 (by decide +kernel), tb0 10 (by decide +kernel), ⟨by decide +kernel, by decide +kernel, by decide +kernel⟩, by decide +kernel⟩
theorem imD_play : Cond.instanceMethod (nmT nD_play) ∈ gtb := tb3 101 (by decide +kernel)
theorem seD_play : Cond.selects (nmT nD_play).cls (nmT nD_play) (nmT nD_play) ∈ gtb := tb3 102 (by decide +kernel)
theorem mlD_perform : ML nD_perform 4 := ⟨tb3 107 (by decide +kernel), tb0 10 (by decide +kernel), ⟨by decide +kernel, by decide +kernel, by decide +kernel⟩, by decide +kernel⟩
theorem imD_perform : Cond.instanceMethod (nmT nD_perform) ∈ gtb := tb3 106 (by decide +kernel)
theorem seD_perform : Cond.selects (nmT nD_perform).cls (nmT nD_perform) (nmT nD_perform) ∈ gtb := tbS 30 (by decide +kernel)
theorem mlF_init : ML nF_init 2 := ⟨tb1 49 (by decide +kernel), tb0 11 (by decide +kernel), ⟨by decide +kernel, by decide +kernel, by decide +kernel⟩, by decide +kernel⟩
theorem imF_init : Cond.instanceMethod (nmT nF_init) ∈ gtb := tb1 48 (by decide +kernel)
theorem mlF_keepNow : ML nF_keepNow 0 := ⟨tb3 198 (by decide +kernel), tb0 11 (by decide +kernel), ⟨by decide +kernel, by decide +kernel, by decide +kernel⟩, by decide +kernel⟩
theorem imF_keepNow : Cond.instanceMethod (nmT nF_keepNow) ∈ gtb := tb3 197 (by decide +kernel)
theorem seF_keepNow : Cond.selects (nmT nF_keepNow).cls (nmT nF_keepNow) (nmT nF_keepNow) ∈ gtb := tbS 33 (by decide +kernel)
theorem mlF_giveBack : ML nF_giveBack 0 := ⟨tb3 215 (by decide +kernel), tb0 11 (by decide +kernel), ⟨by decide +kernel, by decide +kernel, by decide +kernel⟩, by decide +kernel⟩
theorem imF_giveBack : Cond.instanceMethod (nmT nF_giveBack) ∈ gtb := tb3 214 (by decide +kernel)
theorem seF_giveBack : Cond.selects (nmT nF_giveBack).cls (nmT nF_giveBack) (nmT nF_giveBack) ∈ gtb := tbS 36 (by decide +kernel)
theorem mlF_canPass : ML nF_canPass 1 := ⟨tb3 208 (by decide +kernel), tb0 11 (by decide +kernel), ⟨by decide +kernel, by decide +kernel, by decide +kernel⟩, by decide +kernel⟩
theorem imF_canPass : Cond.instanceMethod (nmT nF_canPass) ∈ gtb := tb3 207 (by decide +kernel)
theorem seF_canPass : Cond.selects (nmT nF_canPass).cls (nmT nF_canPass) (nmT nF_canPass) ∈ gtb := tbS 35 (by decide +kernel)
theorem mlF_takenUpTo : ML nF_takenUpTo 2 := ⟨tb3 204 (by decide +kernel), tb0 11 (by decide +kernel), ⟨by decide +kernel, by decide +kernel, by decide +kernel⟩, by decide +kernel⟩
theorem imF_takenUpTo : Cond.instanceMethod (nmT nF_takenUpTo) ∈ gtb := tb3 203 (by decide +kernel)
theorem seF_takenUpTo : Cond.selects (nmT nF_takenUpTo).cls (nmT nF_takenUpTo) (nmT nF_takenUpTo) ∈ gtb := tbS 34 (by decide +kernel)
theorem mlF_taken : ML nF_taken 1 := ⟨tb3 194 (by decide +kernel), tb0 11 (by decide +kernel), ⟨by decide +kernel, by decide +kernel, by decide +kernel⟩, by decide +kernel⟩
theorem imF_taken : Cond.instanceMethod (nmT nF_taken) ∈ gtb := tb3 192 (by decide +kernel)
theorem seF_taken : Cond.selects (nmT nF_taken).cls (nmT nF_taken) (nmT nF_taken) ∈ gtb := tb3 193 (by decide +kernel)
theorem mlF_later : ML nF_later 2 := ⟨tb3 223 (by decide +kernel), tb0 11 (by decide +kernel), ⟨by decide +kernel, by decide +kernel, by decide +kernel⟩, by decide +kernel⟩
theorem imF_later : Cond.instanceMethod (nmT nF_later) ∈ gtb := tb3 221 (by decide +kernel)
theorem seF_later : Cond.selects (nmT nF_later).cls (nmT nF_later) (nmT nF_later) ∈ gtb := tb3 222 (by decide +kernel)
theorem mlF_daysToArrears : ML nF_daysToArrears 0 := ⟨tb3 235 (by decide +kernel), tb0 11 (by decide +kernel), ⟨by decide +kernel, by decide +kernel, by decide +kernel⟩, by decide +kernel⟩
theorem imF_daysToArrears : Cond.instanceMethod (nmT nF_daysToArrears) ∈ gtb := tb3 233 (by decide +kernel)
theorem seF_daysToArrears : Cond.selects (nmT nF_daysToArrears).cls (nmT nF_daysToArrears) (nmT nF_daysToArrears) ∈ gtb := tb3 234 (by decide +kernel)
theorem mlF_isAnyOwed : ML nF_isAnyOwed 0 := ⟨tb4 3 (by decide +kernel), tb0 11 (by decide +kernel), ⟨by decide +kernel, by decide +kernel, by decide +kernel⟩, by decide +kernel⟩
theorem imF_isAnyOwed : Cond.instanceMethod (nmT nF_isAnyOwed) ∈ gtb := tb4 2 (by decide +kernel)
theorem seF_isAnyOwed : Cond.selects (nmT nF_isAnyOwed).cls (nmT nF_isAnyOwed) (nmT nF_isAnyOwed) ∈ gtb := tbS 37 (by decide +kernel)
theorem mlF_isOwed : ML nF_isOwed 1 := ⟨tb4 7 (by decide +kernel), tb0 11 (by decide +kernel), ⟨by decide +kernel, by decide +kernel, by decide +kernel⟩, by decide +kernel⟩
theorem imF_isOwed : Cond.instanceMethod (nmT nF_isOwed) ∈ gtb := tb4 6 (by decide +kernel)
theorem seF_isOwed : Cond.selects (nmT nF_isOwed).cls (nmT nF_isOwed) (nmT nF_isOwed) ∈ gtb := tbS 38 (by decide +kernel)
theorem mlF_daysToBroke : ML nF_daysToBroke 1 := ⟨tb4 16 (by decide +kernel), tb0 11 (by decide +kernel), ⟨by decide +kernel, by decide +kernel, by decide +kernel⟩, by decide +kernel⟩
theorem imF_daysToBroke : Cond.instanceMethod (nmT nF_daysToBroke) ∈ gtb := tb4 14 (by decide +kernel)
theorem seF_daysToBroke : Cond.selects (nmT nF_daysToBroke).cls (nmT nF_daysToBroke) (nmT nF_daysToBroke) ∈ gtb := tb4 15 (by decide +kernel)
theorem mlF_mildestText : ML nF_mildestText 1 := ⟨tb4 24 (by decide +kernel), tb0 11 (by decide +kernel), ⟨by decide +kernel, by decide +kernel, by decide +kernel⟩, by decide +kernel⟩
theorem imF_mildestText : Cond.instanceMethod (nmT nF_mildestText) ∈ gtb := tb4 22 (by decide +kernel)
theorem seF_mildestText : Cond.selects (nmT nF_mildestText).cls (nmT nF_mildestText) (nmT nF_mildestText) ∈ gtb := tb4 23 (by decide +kernel)
theorem mlF_findLeast : ML nF_findLeast 2 := ⟨tb4 47 (by decide +kernel), tb0 11 (by decide +kernel), ⟨by decide +kernel, by decide +kernel, by decide +kernel⟩, by decide +kernel⟩
theorem imF_findLeast : Cond.instanceMethod (nmT nF_findLeast) ∈ gtb := tb4 45 (by decide +kernel)
theorem seF_findLeast : Cond.selects (nmT nF_findLeast).cls (nmT nF_findLeast) (nmT nF_findLeast) ∈ gtb := tb4 46 (by decide +kernel)
theorem mlF_penceFor : ML nF_penceFor 1 := ⟨tb4 51 (by decide +kernel), tb0 11 (by decide +kernel), ⟨by decide +kernel, by decide +kernel, by decide +kernel⟩, by decide +kernel⟩
theorem imF_penceFor : Cond.instanceMethod (nmT nF_penceFor) ∈ gtb := tb4 50 (by decide +kernel)
theorem seF_penceFor : Cond.selects (nmT nF_penceFor).cls (nmT nF_penceFor) (nmT nF_penceFor) ∈ gtb := tbS 40 (by decide +kernel)
theorem mlF_payOff : ML nF_payOff 1 := ⟨tb4 55 (by decide +kernel), tb0 11 (by decide +kernel), ⟨by decide +kernel, by decide +kernel, by decide +kernel⟩, by decide +kernel⟩
theorem imF_payOff : Cond.instanceMethod (nmT nF_payOff) ∈ gtb := tb4 54 (by decide +kernel)
theorem seF_payOff : Cond.selects (nmT nF_payOff).cls (nmT nF_payOff) (nmT nF_payOff) ∈ gtb := tbS 41 (by decide +kernel)
theorem mlF_countCalms : ML nF_countCalms 1 := ⟨tb4 219 (by decide +kernel), tb0 11 (by decide +kernel), ⟨by decide +kernel, by decide +kernel, by decide +kernel⟩, by decide +kernel⟩
theorem imF_countCalms : Cond.instanceMethod (nmT nF_countCalms) ∈ gtb := tb4 217 (by decide +kernel)
theorem seF_countCalms : Cond.selects (nmT nF_countCalms).cls (nmT nF_countCalms) (nmT nF_countCalms) ∈ gtb := tb4 218 (by decide +kernel)
theorem mlF_setOut : ML nF_setOut 1 := ⟨tb4 89 (by decide +kernel), tb0 11 (by decide +kernel), ⟨by decide +kernel, by decide +kernel, by decide +kernel⟩, by decide +kernel⟩
theorem imF_setOut : Cond.instanceMethod (nmT nF_setOut) ∈ gtb := tb4 87 (by decide +kernel)
theorem seF_setOut : Cond.selects (nmT nF_setOut).cls (nmT nF_setOut) (nmT nF_setOut) ∈ gtb := tb4 88 (by decide +kernel)
theorem mlF_foreseeSpeeds : ML nF_foreseeSpeeds 0 := ⟨tb4 93 (by decide +kernel), tb0 11 (by decide +kernel), ⟨by decide +kernel, by decide +kernel, by decide +kernel⟩, by decide +kernel⟩
theorem imF_foreseeSpeeds : Cond.instanceMethod (nmT nF_foreseeSpeeds) ∈ gtb := tb4 92 (by decide +kernel)
theorem seF_foreseeSpeeds : Cond.selects (nmT nF_foreseeSpeeds).cls (nmT nF_foreseeSpeeds) (nmT nF_foreseeSpeeds) ∈ gtb := tbS 42 (by decide +kernel)
theorem mlF_arrival : ML nF_arrival 2 := ⟨tb4 101 (by decide +kernel), tb0 11 (by decide +kernel), ⟨by decide +kernel, by decide +kernel, by decide +kernel⟩, by decide +kernel⟩
theorem imF_arrival : Cond.instanceMethod (nmT nF_arrival) ∈ gtb := tb4 100 (by decide +kernel)
theorem seF_arrival : Cond.selects (nmT nF_arrival).cls (nmT nF_arrival) (nmT nF_arrival) ∈ gtb := tbS 43 (by decide +kernel)
theorem mlF_isReached : ML nF_isReached 1 := ⟨tb4 109 (by decide +kernel), tb0 11 (by decide +kernel), ⟨by decide +kernel, by decide +kernel, by decide +kernel⟩, by decide +kernel⟩
theorem imF_isReached : Cond.instanceMethod (nmT nF_isReached) ∈ gtb := tb4 107 (by decide +kernel)
theorem seF_isReached : Cond.selects (nmT nF_isReached).cls (nmT nF_isReached) (nmT nF_isReached) ∈ gtb := tb4 108 (by decide +kernel)
theorem mlF_lastAhead : ML nF_lastAhead 1 := ⟨tb4 113 (by decide +kernel), tb0 11 (by decide +kernel), ⟨by decide +kernel, by decide +kernel, by decide +kernel⟩, by decide +kernel⟩
theorem imF_lastAhead : Cond.instanceMethod (nmT nF_lastAhead) ∈ gtb := tb4 111 (by decide +kernel)
theorem seF_lastAhead : Cond.selects (nmT nF_lastAhead).cls (nmT nF_lastAhead) (nmT nF_lastAhead) ∈ gtb := tb4 112 (by decide +kernel)
theorem mlQ_init : ML nQ_init 0 := ⟨tb0 193 (by decide +kernel), tb0 6 (by decide +kernel), ⟨by decide +kernel, by decide +kernel, by decide +kernel⟩, by decide +kernel⟩
theorem imQ_init : Cond.instanceMethod (nmT nQ_init) ∈ gtb := tb0 192 (by decide +kernel)
theorem mlQ_set : ML nQ_set 2 := ⟨tb4 39 (by decide +kernel), tb0 6 (by decide +kernel), ⟨by decide +kernel, by decide +kernel, by decide +kernel⟩, by decide +kernel⟩
theorem imQ_set : Cond.instanceMethod (nmT nQ_set) ∈ gtb := tb4 38 (by decide +kernel)
theorem seQ_set : Cond.selects (nmT nQ_set).cls (nmT nQ_set) (nmT nQ_set) ∈ gtb := tbS 39 (by decide +kernel)
theorem mlQ_setOdds : ML nQ_setOdds 3 := ⟨tb4 33 (by decide +kernel), tb0 6 (by decide +kernel), ⟨by decide +kernel, by decide +kernel, by decide +kernel⟩, by decide +kernel⟩
theorem imQ_setOdds : Cond.instanceMethod (nmT nQ_setOdds) ∈ gtb := tb4 31 (by decide +kernel)
theorem seQ_setOdds : Cond.selects (nmT nQ_setOdds).cls (nmT nQ_setOdds) (nmT nQ_setOdds) ∈ gtb := tb4 32 (by decide +kernel)
theorem mlQ_setShare : ML nQ_setShare 3 := ⟨tb4 74 (by decide +kernel), tb0 6 (by decide +kernel), ⟨by decide +kernel, by decide +kernel, by decide +kernel⟩, by decide +kernel⟩
theorem imQ_setShare : Cond.instanceMethod (nmT nQ_setShare) ∈ gtb := tb4 72 (by decide +kernel)
theorem seQ_setShare : Cond.selects (nmT nQ_setShare).cls (nmT nQ_setShare) (nmT nQ_setShare) ∈ gtb := tb4 73 (by decide +kernel)
theorem mlQ_mostOf : ML nQ_mostOf 2 := ⟨tb4 80 (by decide +kernel), tb0 6 (by decide +kernel), ⟨by decide +kernel, by decide +kernel, by decide +kernel⟩, by decide +kernel⟩
theorem stQ_mostOf : Cond.static (nmT nQ_mostOf) ∈ gtb := tb4 79 (by decide +kernel)
theorem mlL_init : ML nL_init 2 := ⟨tb1 9 (by decide +kernel), tb0 9 (by decide +kernel), ⟨by decide +kernel, by decide +kernel, by decide +kernel⟩, by decide +kernel⟩
theorem imL_init : Cond.instanceMethod (nmT nL_init) ∈ gtb := tb1 8 (by decide +kernel)
theorem mlL_comesOf : ML nL_comesOf 1 := ⟨tb3 79 (by decide +kernel), tb0 9 (by decide +kernel), ⟨by decide +kernel, by decide +kernel, by decide +kernel⟩, by decide +kernel⟩
theorem imL_comesOf : Cond.instanceMethod (nmT nL_comesOf) ∈ gtb := tb3 77 (by decide +kernel)
theorem seL_comesOf : Cond.selects (nmT nL_comesOf).cls (nmT nL_comesOf) (nmT nL_comesOf) ∈ gtb := tb3 78 (by decide +kernel)
theorem mlL_blowsOf : ML nL_blowsOf 1 := ⟨tb3 83 (by decide +kernel), tb0 9 (by decide +kernel), ⟨by decide +kernel, by decide +kernel, by decide +kernel⟩, by decide +kernel⟩
theorem imL_blowsOf : Cond.instanceMethod (nmT nL_blowsOf) ∈ gtb := tb3 81 (by decide +kernel)
theorem seL_blowsOf : Cond.selects (nmT nL_blowsOf).cls (nmT nL_blowsOf) (nmT nL_blowsOf) ∈ gtb := tb3 82 (by decide +kernel)
theorem mlL_duesOf : ML nL_duesOf 1 := ⟨tb3 10 (by decide +kernel), tb0 9 (by decide +kernel), ⟨by decide +kernel, by decide +kernel, by decide +kernel⟩, by decide +kernel⟩
theorem imL_duesOf : Cond.instanceMethod (nmT nL_duesOf) ∈ gtb := tb3 8 (by decide +kernel)
theorem seL_duesOf : Cond.selects (nmT nL_duesOf).cls (nmT nL_duesOf) (nmT nL_duesOf) ∈ gtb := tb3 9 (by decide +kernel)
theorem mlL_takesOf : ML nL_takesOf 3 := ⟨tb3 87 (by decide +kernel), tb0 9 (by decide +kernel), ⟨by decide +kernel, by decide +kernel, by decide +kernel⟩, by decide +kernel⟩
theorem imL_takesOf : Cond.instanceMethod (nmT nL_takesOf) ∈ gtb := tb3 85 (by decide +kernel)
theorem seL_takesOf : Cond.selects (nmT nL_takesOf).cls (nmT nL_takesOf) (nmT nL_takesOf) ∈ gtb := tb3 86 (by decide +kernel)
theorem mlL_catchOf : ML nL_catchOf 3 := ⟨tb3 91 (by decide +kernel), tb0 9 (by decide +kernel), ⟨by decide +kernel, by decide +kernel, by decide +kernel⟩, by decide +kernel⟩
theorem imL_catchOf : Cond.instanceMethod (nmT nL_catchOf) ∈ gtb := tb3 89 (by decide +kernel)
theorem seL_catchOf : Cond.selects (nmT nL_catchOf).cls (nmT nL_catchOf) (nmT nL_catchOf) ∈ gtb := tb3 90 (by decide +kernel)
theorem mlL_rulingOn : ML nL_rulingOn 1 := ⟨tb3 14 (by decide +kernel), tb0 9 (by decide +kernel), ⟨by decide +kernel, by decide +kernel, by decide +kernel⟩, by decide +kernel⟩
theorem imL_rulingOn : Cond.instanceMethod (nmT nL_rulingOn) ∈ gtb := tb3 13 (by decide +kernel)
theorem seL_rulingOn : Cond.selects (nmT nL_rulingOn).cls (nmT nL_rulingOn) (nmT nL_rulingOn) ∈ gtb := tbS 24 (by decide +kernel)
theorem mlL_within : ML nL_within 2 := ⟨tb3 55 (by decide +kernel), tb0 9 (by decide +kernel), ⟨by decide +kernel, by decide +kernel, by decide +kernel⟩, by decide +kernel⟩
theorem stL_within : Cond.static (nmT nL_within) ∈ gtb := tb3 54 (by decide +kernel)
theorem mlL_reckoned : ML nL_reckoned 5 := ⟨tb3 20 (by decide +kernel), tb0 9 (by decide +kernel), ⟨by decide +kernel, by decide +kernel, by decide +kernel⟩, by decide +kernel⟩
theorem imL_reckoned : Cond.instanceMethod (nmT nL_reckoned) ∈ gtb := tb3 19 (by decide +kernel)
theorem seL_reckoned : Cond.selects (nmT nL_reckoned).cls (nmT nL_reckoned) (nmT nL_reckoned) ∈ gtb := tbS 25 (by decide +kernel)
theorem mlL_named : ML nL_named 4 := ⟨tb3 24 (by decide +kernel), tb0 9 (by decide +kernel), ⟨by decide +kernel, by decide +kernel, by decide +kernel⟩, by decide +kernel⟩
theorem imL_named : Cond.instanceMethod (nmT nL_named) ∈ gtb := tb3 23 (by decide +kernel)
theorem seL_named : Cond.selects (nmT nL_named).cls (nmT nL_named) (nmT nL_named) ∈ gtb := tbS 26 (by decide +kernel)
theorem mlL_ofOne : ML nL_ofOne 2 := ⟨tb3 28 (by decide +kernel), tb0 9 (by decide +kernel), ⟨by decide +kernel, by decide +kernel, by decide +kernel⟩, by decide +kernel⟩
theorem imL_ofOne : Cond.instanceMethod (nmT nL_ofOne) ∈ gtb := tb3 27 (by decide +kernel)
theorem seL_ofOne : Cond.selects (nmT nL_ofOne).cls (nmT nL_ofOne) (nmT nL_ofOne) ∈ gtb := tbS 27 (by decide +kernel)
theorem mlL_ofTwo : ML nL_ofTwo 3 := ⟨tb3 44 (by decide +kernel), tb0 9 (by decide +kernel), ⟨by decide +kernel, by decide +kernel, by decide +kernel⟩, by decide +kernel⟩
theorem stL_ofTwo : Cond.static (nmT nL_ofTwo) ∈ gtb := tb3 43 (by decide +kernel)
theorem mlL_nearest : ML nL_nearest 2 := ⟨tb3 38 (by decide +kernel), tb0 9 (by decide +kernel), ⟨by decide +kernel, by decide +kernel, by decide +kernel⟩, by decide +kernel⟩
theorem stL_nearest : Cond.static (nmT nL_nearest) ∈ gtb := tb3 37 (by decide +kernel)
theorem mlR_init : ML nR_init 1 := ⟨tb0 135 (by decide +kernel), tb0 3 (by decide +kernel), ⟨by decide +kernel, by decide +kernel, by decide +kernel⟩, by decide +kernel⟩
theorem imR_init : Cond.instanceMethod (nmT nR_init) ∈ gtb := tb0 134 (by decide +kernel)
theorem mlR_read : ML nR_read 2 := ⟨tb1 204 (by decide +kernel), tb0 3 (by decide +kernel), ⟨by decide +kernel, by decide +kernel, by decide +kernel⟩, by decide +kernel⟩
theorem imR_read : Cond.instanceMethod (nmT nR_read) ∈ gtb := tb1 202 (by decide +kernel)
theorem seR_read : Cond.selects (nmT nR_read).cls (nmT nR_read) (nmT nR_read) ∈ gtb := tb1 203 (by decide +kernel)
theorem mlR_blame : ML nR_blame 1 := ⟨tb2 55 (by decide +kernel), tb0 3 (by decide +kernel), ⟨by decide +kernel, by decide +kernel, by decide +kernel⟩, by decide +kernel⟩
theorem imR_blame : Cond.instanceMethod (nmT nR_blame) ∈ gtb := tb2 54 (by decide +kernel)
theorem seR_blame : Cond.selects (nmT nR_blame).cls (nmT nR_blame) (nmT nR_blame) ∈ gtb := tbS 6 (by decide +kernel)
theorem mlR_blameClause : ML nR_blameClause 1 := ⟨tb2 51 (by decide +kernel), tb0 3 (by decide +kernel), ⟨by decide +kernel, by decide +kernel, by decide +kernel⟩, by decide +kernel⟩
theorem imR_blameClause : Cond.instanceMethod (nmT nR_blameClause) ∈ gtb := tb2 50 (by decide +kernel)
theorem seR_blameClause : Cond.selects (nmT nR_blameClause).cls (nmT nR_blameClause) (nmT nR_blameClause) ∈ gtb := tbS 5 (by decide +kernel)
theorem mlR_readDeed : ML nR_readDeed 1 := ⟨tb2 153 (by decide +kernel), tb0 3 (by decide +kernel), ⟨by decide +kernel, by decide +kernel, by decide +kernel⟩, by decide +kernel⟩
theorem imR_readDeed : Cond.instanceMethod (nmT nR_readDeed) ∈ gtb := tb2 152 (by decide +kernel)
theorem seR_readDeed : Cond.selects (nmT nR_readDeed).cls (nmT nR_readDeed) (nmT nR_readDeed) ∈ gtb := tbS 17 (by decide +kernel)
theorem mlR_expect : ML nR_expect 1 := ⟨tb2 163 (by decide +kernel), tb0 3 (by decide +kernel), ⟨by decide +kernel, by decide +kernel, by decide +kernel⟩, by decide +kernel⟩
theorem imR_expect : Cond.instanceMethod (nmT nR_expect) ∈ gtb := tb2 162 (by decide +kernel)
theorem seR_expect : Cond.selects (nmT nR_expect).cls (nmT nR_expect) (nmT nR_expect) ∈ gtb := tbS 19 (by decide +kernel)
theorem mlR_expectNumber : ML nR_expectNumber 2 := ⟨tb2 157 (by decide +kernel), tb0 3 (by decide +kernel), ⟨by decide +kernel, by decide +kernel, by decide +kernel⟩, by decide +kernel⟩
theorem imR_expectNumber : Cond.instanceMethod (nmT nR_expectNumber) ∈ gtb := tb2 156 (by decide +kernel)
theorem seR_expectNumber : Cond.selects (nmT nR_expectNumber).cls (nmT nR_expectNumber) (nmT nR_expectNumber) ∈ gtb := tbS 18 (by decide +kernel)
theorem mlR_readLaw : ML nR_readLaw 1 := ⟨tb2 63 (by decide +kernel), tb0 3 (by decide +kernel), ⟨by decide +kernel, by decide +kernel, by decide +kernel⟩, by decide +kernel⟩
theorem imR_readLaw : Cond.instanceMethod (nmT nR_readLaw) ∈ gtb := tb2 62 (by decide +kernel)
theorem seR_readLaw : Cond.selects (nmT nR_readLaw).cls (nmT nR_readLaw) (nmT nR_readLaw) ∈ gtb := tbS 7 (by decide +kernel)
theorem mlR_top : ML nR_top 0 := ⟨tb2 83 (by decide +kernel), tb0 3 (by decide +kernel), ⟨by decide +kernel, by decide +kernel, by decide +kernel⟩, by decide +kernel⟩
theorem imR_top : Cond.instanceMethod (nmT nR_top) ∈ gtb := tb2 82 (by decide +kernel)
theorem seR_top : Cond.selects (nmT nR_top).cls (nmT nR_top) (nmT nR_top) ∈ gtb := tbS 10 (by decide +kernel)
theorem mlR_push : ML nR_push 1 := ⟨tb2 109 (by decide +kernel), tb0 3 (by decide +kernel), ⟨by decide +kernel, by decide +kernel, by decide +kernel⟩, by decide +kernel⟩
theorem imR_push : Cond.instanceMethod (nmT nR_push) ∈ gtb := tb2 108 (by decide +kernel)
theorem seR_push : Cond.selects (nmT nR_push).cls (nmT nR_push) (nmT nR_push) ∈ gtb := tbS 12 (by decide +kernel)
theorem mlR_isAtAsk : ML nR_isAtAsk 0 := ⟨tb2 117 (by decide +kernel), tb0 3 (by decide +kernel), ⟨by decide +kernel, by decide +kernel, by decide +kernel⟩, by decide +kernel⟩
theorem imR_isAtAsk : Cond.instanceMethod (nmT nR_isAtAsk) ∈ gtb := tb2 116 (by decide +kernel)
theorem seR_isAtAsk : Cond.selects (nmT nR_isAtAsk).cls (nmT nR_isAtAsk) (nmT nR_isAtAsk) ∈ gtb := tbS 13 (by decide +kernel)
theorem mlR_readOne : ML nR_readOne 0 := ⟨tb2 71 (by decide +kernel), tb0 3 (by decide +kernel), ⟨by decide +kernel, by decide +kernel, by decide +kernel⟩, by decide +kernel⟩
theorem imR_readOne : Cond.instanceMethod (nmT nR_readOne) ∈ gtb := tb2 70 (by decide +kernel)
theorem seR_readOne : Cond.selects (nmT nR_readOne).cls (nmT nR_readOne) (nmT nR_readOne) ∈ gtb := tbS 8 (by decide +kernel)
theorem mlR_openOne : ML nR_openOne 1 := ⟨tb2 105 (by decide +kernel), tb0 3 (by decide +kernel), ⟨by decide +kernel, by decide +kernel, by decide +kernel⟩, by decide +kernel⟩
theorem imR_openOne : Cond.instanceMethod (nmT nR_openOne) ∈ gtb := tb2 104 (by decide +kernel)
theorem seR_openOne : Cond.selects (nmT nR_openOne).cls (nmT nR_openOne) (nmT nR_openOne) ∈ gtb := tbS 11 (by decide +kernel)
theorem mlR_closeOne : ML nR_closeOne 0 := ⟨tb2 79 (by decide +kernel), tb0 3 (by decide +kernel), ⟨by decide +kernel, by decide +kernel, by decide +kernel⟩, by decide +kernel⟩
theorem imR_closeOne : Cond.instanceMethod (nmT nR_closeOne) ∈ gtb := tb2 78 (by decide +kernel)
theorem seR_closeOne : Cond.selects (nmT nR_closeOne).cls (nmT nR_closeOne) (nmT nR_closeOne) ∈ gtb := tbS 9 (by decide +kernel)
theorem mlR_readBehindOne : ML nR_readBehindOne 0 := ⟨tb2 125 (by decide +kernel), tb0 3 (by decide +kernel), ⟨by decide +kernel, by decide +kernel, by decide +kernel⟩, by decide +kernel⟩
theorem imR_readBehindOne : Cond.instanceMethod (nmT nR_readBehindOne) ∈ gtb := tb2 124 (by decide +kernel)
theorem seR_readBehindOne : Cond.selects (nmT nR_readBehindOne).cls (nmT nR_readBehindOne) (nmT nR_readBehindOne) ∈ gtb := tbS 14 (by decide +kernel)
theorem mlR_readBehindSum : ML nR_readBehindSum 0 := ⟨tb2 133 (by decide +kernel), tb0 3 (by decide +kernel), ⟨by decide +kernel, by decide +kernel, by decide +kernel⟩, by decide +kernel⟩
theorem imR_readBehindSum : Cond.instanceMethod (nmT nR_readBehindSum) ∈ gtb := tb2 132 (by decide +kernel)
theorem seR_readBehindSum : Cond.selects (nmT nR_readBehindSum).cls (nmT nR_readBehindSum) (nmT nR_readBehindSum) ∈ gtb := tbS 16 (by decide +kernel)
theorem mlR_putDownTo : ML nR_putDownTo 1 := ⟨tb2 129 (by decide +kernel), tb0 3 (by decide +kernel), ⟨by decide +kernel, by decide +kernel, by decide +kernel⟩, by decide +kernel⟩
theorem imR_putDownTo : Cond.instanceMethod (nmT nR_putDownTo) ∈ gtb := tb2 128 (by decide +kernel)
theorem seR_putDownTo : Cond.selects (nmT nR_putDownTo).cls (nmT nR_putDownTo) (nmT nR_putDownTo) ∈ gtb := tbS 15 (by decide +kernel)
theorem mlR_advance : ML nR_advance 0 := ⟨tb1 215 (by decide +kernel), tb0 3 (by decide +kernel), ⟨by decide +kernel, by decide +kernel, by decide +kernel⟩, by decide +kernel⟩
theorem imR_advance : Cond.instanceMethod (nmT nR_advance) ∈ gtb := tb1 214 (by decide +kernel)
theorem seR_advance : Cond.selects (nmT nR_advance).cls (nmT nR_advance) (nmT nR_advance) ∈ gtb := tbS 1 (by decide +kernel)
theorem mlR_readNumber : ML nR_readNumber 0 := ⟨tb2 45 (by decide +kernel), tb0 3 (by decide +kernel), ⟨by decide +kernel, by decide +kernel, by decide +kernel⟩, by decide +kernel⟩
theorem imR_readNumber : Cond.instanceMethod (nmT nR_readNumber) ∈ gtb := tb2 44 (by decide +kernel)
theorem seR_readNumber : Cond.selects (nmT nR_readNumber).cls (nmT nR_readNumber) (nmT nR_readNumber) ∈ gtb := tbS 4 (by decide +kernel)
theorem mlR_isLetter : ML nR_isLetter 1 := ⟨tb1 218 (by decide +kernel), tb0 3 (by decide +kernel), ⟨by decide +kernel, by decide +kernel, by decide +kernel⟩, by decide +kernel⟩
theorem stR_isLetter : Cond.static (nmT nR_isLetter) ∈ gtb := tb1 217 (by decide +kernel)
theorem mlR_isDigit : ML nR_isDigit 1 := ⟨tb2 41 (by decide +kernel), tb0 3 (by decide +kernel), ⟨by decide +kernel, by decide +kernel, by decide +kernel⟩, by decide +kernel⟩
theorem stR_isDigit : Cond.static (nmT nR_isDigit) ∈ gtb := tb2 40 (by decide +kernel)
theorem mlR_spelled : ML nR_spelled 0 := ⟨tb1 222 (by decide +kernel), tb0 3 (by decide +kernel), ⟨by decide +kernel, by decide +kernel, by decide +kernel⟩, by decide +kernel⟩
theorem imR_spelled : Cond.instanceMethod (nmT nR_spelled) ∈ gtb := tb1 221 (by decide +kernel)
theorem seR_spelled : Cond.selects (nmT nR_spelled).cls (nmT nR_spelled) (nmT nR_spelled) ∈ gtb := tbS 2 (by decide +kernel)
theorem mlR_isSpelled : ML nR_isSpelled 1 := ⟨tb1 228 (by decide +kernel), tb0 3 (by decide +kernel), ⟨by decide +kernel, by decide +kernel, by decide +kernel⟩, by decide +kernel⟩
theorem imR_isSpelled : Cond.instanceMethod (nmT nR_isSpelled) ∈ gtb := tb1 227 (by decide +kernel)
theorem seR_isSpelled : Cond.selects (nmT nR_isSpelled).cls (nmT nR_isSpelled) (nmT nR_isSpelled) ∈ gtb := tbS 3 (by decide +kernel)
theorem mlZ_init : ML nZ_init 2 := ⟨tb1 91 (by decide +kernel), tb0 12 (by decide +kernel), ⟨by decide +kernel, by decide +kernel, by decide +kernel⟩, by decide +kernel⟩
theorem imZ_init : Cond.instanceMethod (nmT nZ_init) ∈ gtb := tb1 90 (by decide +kernel)
theorem mlZ_findTakes : ML nZ_findTakes 2 := ⟨tb4 69 (by decide +kernel), tb0 12 (by decide +kernel), ⟨by decide +kernel, by decide +kernel, by decide +kernel⟩, by decide +kernel⟩
theorem imZ_findTakes : Cond.instanceMethod (nmT nZ_findTakes) ∈ gtb := tb4 67 (by decide +kernel)
theorem seZ_findTakes : Cond.selects (nmT nZ_findTakes).cls (nmT nZ_findTakes) (nmT nZ_findTakes) ∈ gtb := tb4 68 (by decide +kernel)
theorem mlZ_fittingForces : ML nZ_fittingForces 1 := ⟨tb4 129 (by decide +kernel), tb0 12 (by decide +kernel), ⟨by decide +kernel, by decide +kernel, by decide +kernel⟩, by decide +kernel⟩
theorem imZ_fittingForces : Cond.instanceMethod (nmT nZ_fittingForces) ∈ gtb := tb4 127 (by decide +kernel)
theorem seZ_fittingForces : Cond.selects (nmT nZ_fittingForces).cls (nmT nZ_fittingForces) (nmT nZ_fittingForces) ∈ gtb := tb4 128 (by decide +kernel)
theorem mlZ_fits : ML nZ_fits 2 := ⟨tb4 133 (by decide +kernel), tb0 12 (by decide +kernel), ⟨by decide +kernel, by decide +kernel, by decide +kernel⟩, by decide +kernel⟩
theorem imZ_fits : Cond.instanceMethod (nmT nZ_fits) ∈ gtb := tb4 132 (by decide +kernel)
theorem seZ_fits : Cond.selects (nmT nZ_fits).cls (nmT nZ_fits) (nmT nZ_fits) ∈ gtb := tbS 44 (by decide +kernel)
theorem mlZ_fittingWinds : ML nZ_fittingWinds 0 := ⟨tb4 125 (by decide +kernel), tb0 12 (by decide +kernel), ⟨by decide +kernel, by decide +kernel, by decide +kernel⟩, by decide +kernel⟩
theorem imZ_fittingWinds : Cond.instanceMethod (nmT nZ_fittingWinds) ∈ gtb := tb4 123 (by decide +kernel)
theorem seZ_fittingWinds : Cond.selects (nmT nZ_fittingWinds).cls (nmT nZ_fittingWinds) (nmT nZ_fittingWinds) ∈ gtb := tb4 124 (by decide +kernel)
theorem mlZ_nextVane : ML nZ_nextVane 0 := ⟨tb4 146 (by decide +kernel), tb0 12 (by decide +kernel), ⟨by decide +kernel, by decide +kernel, by decide +kernel⟩, by decide +kernel⟩
theorem imZ_nextVane : Cond.instanceMethod (nmT nZ_nextVane) ∈ gtb := tb4 144 (by decide +kernel)
theorem seZ_nextVane : Cond.selects (nmT nZ_nextVane).cls (nmT nZ_nextVane) (nmT nZ_nextVane) ∈ gtb := tb4 145 (by decide +kernel)
theorem mlZ_isTookOf : ML nZ_isTookOf 1 := ⟨tb4 150 (by decide +kernel), tb0 12 (by decide +kernel), ⟨by decide +kernel, by decide +kernel, by decide +kernel⟩, by decide +kernel⟩
theorem imZ_isTookOf : Cond.instanceMethod (nmT nZ_isTookOf) ∈ gtb := tb4 149 (by decide +kernel)
theorem seZ_isTookOf : Cond.selects (nmT nZ_isTookOf).cls (nmT nZ_isTookOf) (nmT nZ_isTookOf) ∈ gtb := tbS 45 (by decide +kernel)
theorem mlZ_unlikeAnswers : ML nZ_unlikeAnswers 1 := ⟨tb4 154 (by decide +kernel), tb0 12 (by decide +kernel), ⟨by decide +kernel, by decide +kernel, by decide +kernel⟩, by decide +kernel⟩
theorem imZ_unlikeAnswers : Cond.instanceMethod (nmT nZ_unlikeAnswers) ∈ gtb := tb4 153 (by decide +kernel)
theorem seZ_unlikeAnswers : Cond.selects (nmT nZ_unlikeAnswers).cls (nmT nZ_unlikeAnswers) (nmT nZ_unlikeAnswers) ∈ gtb := tbS 46 (by decide +kernel)
theorem mlZ_findSails : ML nZ_findSails 2 := ⟨tb4 166 (by decide +kernel), tb0 12 (by decide +kernel), ⟨by decide +kernel, by decide +kernel, by decide +kernel⟩, by decide +kernel⟩
theorem imZ_findSails : Cond.instanceMethod (nmT nZ_findSails) ∈ gtb := tb4 164 (by decide +kernel)
theorem seZ_findSails : Cond.selects (nmT nZ_findSails).cls (nmT nZ_findSails) (nmT nZ_findSails) ∈ gtb := tb4 165 (by decide +kernel)
theorem mlZ_rows : ML nZ_rows 0 := ⟨tb4 175 (by decide +kernel), tb0 12 (by decide +kernel), ⟨by decide +kernel, by decide +kernel, by decide +kernel⟩, by decide +kernel⟩
theorem imZ_rows : Cond.instanceMethod (nmT nZ_rows) ∈ gtb := tb4 174 (by decide +kernel)
theorem seZ_rows : Cond.selects (nmT nZ_rows).cls (nmT nZ_rows) (nmT nZ_rows) ∈ gtb := tbS 47 (by decide +kernel)
theorem mlZ_payment : ML nZ_payment 2 := ⟨tb4 182 (by decide +kernel), tb0 12 (by decide +kernel), ⟨by decide +kernel, by decide +kernel, by decide +kernel⟩, by decide +kernel⟩
theorem stZ_payment : Cond.static (nmT nZ_payment) ∈ gtb := tb4 181 (by decide +kernel)
theorem mlZ_isSo : ML nZ_isSo 1 := ⟨tb4 179 (by decide +kernel), tb0 12 (by decide +kernel), ⟨by decide +kernel, by decide +kernel, by decide +kernel⟩, by decide +kernel⟩
theorem imZ_isSo : Cond.instanceMethod (nmT nZ_isSo) ∈ gtb := tb4 178 (by decide +kernel)
theorem seZ_isSo : Cond.selects (nmT nZ_isSo).cls (nmT nZ_isSo) (nmT nZ_isSo) ∈ gtb := tbS 48 (by decide +kernel)
theorem mlZ_countRows : ML nZ_countRows 0 := ⟨tb4 171 (by decide +kernel), tb0 12 (by decide +kernel), ⟨by decide +kernel, by decide +kernel, by decide +kernel⟩, by decide +kernel⟩
theorem imZ_countRows : Cond.instanceMethod (nmT nZ_countRows) ∈ gtb := tb4 169 (by decide +kernel)
theorem seZ_countRows : Cond.selects (nmT nZ_countRows).cls (nmT nZ_countRows) (nmT nZ_countRows) ∈ gtb := tb4 170 (by decide +kernel)
theorem mlZ_surePayment : ML nZ_surePayment 1 := ⟨tb4 190 (by decide +kernel), tb0 12 (by decide +kernel), ⟨by decide +kernel, by decide +kernel, by decide +kernel⟩, by decide +kernel⟩
theorem imZ_surePayment : Cond.instanceMethod (nmT nZ_surePayment) ∈ gtb := tb4 188 (by decide +kernel)
theorem seZ_surePayment : Cond.selects (nmT nZ_surePayment).cls (nmT nZ_surePayment) (nmT nZ_surePayment) ∈ gtb := tb4 189 (by decide +kernel)
theorem mlT_init : ML nT_init 0 := ⟨tb0 218 (by decide +kernel), tb0 8 (by decide +kernel), ⟨by decide +kernel, by decide +kernel, by decide +kernel⟩, by decide +kernel⟩
theorem imT_init : Cond.instanceMethod (nmT nT_init) ∈ gtb := tb0 217 (by decide +kernel)
theorem mlT_clear : ML nT_clear 0 := ⟨tb1 211 (by decide +kernel), tb0 8 (by decide +kernel), ⟨by decide +kernel, by decide +kernel, by decide +kernel⟩, by decide +kernel⟩
theorem imT_clear : Cond.instanceMethod (nmT nT_clear) ∈ gtb := tb1 209 (by decide +kernel)
theorem seT_clear : Cond.selects (nmT nT_clear).cls (nmT nT_clear) (nmT nT_clear) ∈ gtb := tb1 210 (by decide +kernel)
theorem mlT_hasLaw : ML nT_hasLaw 1 := ⟨tb2 59 (by decide +kernel), tb0 8 (by decide +kernel), ⟨by decide +kernel, by decide +kernel, by decide +kernel⟩, by decide +kernel⟩
theorem imT_hasLaw : Cond.instanceMethod (nmT nT_hasLaw) ∈ gtb := tb2 57 (by decide +kernel)
theorem seT_hasLaw : Cond.selects (nmT nT_hasLaw).cls (nmT nT_hasLaw) (nmT nT_hasLaw) ∈ gtb := tb2 58 (by decide +kernel)
theorem mlT_beginLaw : ML nT_beginLaw 1 := ⟨tb2 67 (by decide +kernel), tb0 8 (by decide +kernel), ⟨by decide +kernel, by decide +kernel, by decide +kernel⟩, by decide +kernel⟩
theorem imT_beginLaw : Cond.instanceMethod (nmT nT_beginLaw) ∈ gtb := tb2 65 (by decide +kernel)
theorem seT_beginLaw : Cond.selects (nmT nT_beginLaw).cls (nmT nT_beginLaw) (nmT nT_beginLaw) ∈ gtb := tb2 66 (by decide +kernel)
theorem mlT_endLaw : ML nT_endLaw 1 := ⟨tb2 145 (by decide +kernel), tb0 8 (by decide +kernel), ⟨by decide +kernel, by decide +kernel, by decide +kernel⟩, by decide +kernel⟩
theorem imT_endLaw : Cond.instanceMethod (nmT nT_endLaw) ∈ gtb := tb2 143 (by decide +kernel)
theorem seT_endLaw : Cond.selects (nmT nT_endLaw).cls (nmT nT_endLaw) (nmT nT_endLaw) ∈ gtb := tb2 144 (by decide +kernel)
theorem mlT_put : ML nT_put 1 := ⟨tb2 75 (by decide +kernel), tb0 8 (by decide +kernel), ⟨by decide +kernel, by decide +kernel, by decide +kernel⟩, by decide +kernel⟩
theorem imT_put : Cond.instanceMethod (nmT nT_put) ∈ gtb := tb2 73 (by decide +kernel)
theorem seT_put : Cond.selects (nmT nT_put).cls (nmT nT_put) (nmT nT_put) ∈ gtb := tb2 74 (by decide +kernel)
theorem mlT_addClause : ML nT_addClause 4 := ⟨tb2 149 (by decide +kernel), tb0 8 (by decide +kernel), ⟨by decide +kernel, by decide +kernel, by decide +kernel⟩, by decide +kernel⟩
theorem imT_addClause : Cond.instanceMethod (nmT nT_addClause) ∈ gtb := tb2 147 (by decide +kernel)
theorem seT_addClause : Cond.selects (nmT nT_addClause).cls (nmT nT_addClause) (nmT nT_addClause) ∈ gtb := tb2 148 (by decide +kernel)
theorem mlK_isName : ML nK_isName 0 := ⟨tb2 93 (by decide +kernel), tb0 5 (by decide +kernel), ⟨by decide +kernel, by decide +kernel, by decide +kernel⟩, by decide +kernel⟩
theorem imK_isName : Cond.instanceMethod (nmT nK_isName) ∈ gtb := tb2 91 (by decide +kernel)
theorem seK_isName : Cond.selects (nmT nK_isName).cls (nmT nK_isName) (nmT nK_isName) ∈ gtb := tb2 92 (by decide +kernel)
theorem mlK_isNameOf : ML nK_isNameOf 1 := ⟨tb2 97 (by decide +kernel), tb0 5 (by decide +kernel), ⟨by decide +kernel, by decide +kernel, by decide +kernel⟩, by decide +kernel⟩
theorem imK_isNameOf : Cond.instanceMethod (nmT nK_isNameOf) ∈ gtb := tb2 95 (by decide +kernel)
theorem seK_isNameOf : Cond.selects (nmT nK_isNameOf).cls (nmT nK_isNameOf) (nmT nK_isNameOf) ∈ gtb := tb2 96 (by decide +kernel)
theorem mlK_compares : ML nK_compares 0 := ⟨tb2 139 (by decide +kernel), tb0 5 (by decide +kernel), ⟨by decide +kernel, by decide +kernel, by decide +kernel⟩, by decide +kernel⟩
theorem imK_compares : Cond.instanceMethod (nmT nK_compares) ∈ gtb := tb2 137 (by decide +kernel)
theorem seK_compares : Cond.selects (nmT nK_compares).cls (nmT nK_compares) (nmT nK_compares) ∈ gtb := tb2 138 (by decide +kernel)
theorem mlW_init : ML nW_init 0 := ⟨tb0 33 (by decide +kernel), tb0 2 (by decide +kernel), ⟨by decide +kernel, by decide +kernel, by decide +kernel⟩, by decide +kernel⟩
theorem imW_init : Cond.instanceMethod (nmT nW_init) ∈ gtb := tb0 32 (by decide +kernel)
theorem mlW_copyFrom : ML nW_copyFrom 1 := ⟨tb5 5 (by decide +kernel), tb0 2 (by decide +kernel), ⟨by decide +kernel, by decide +kernel, by decide +kernel⟩, by decide +kernel⟩
theorem imW_copyFrom : Cond.instanceMethod (nmT nW_copyFrom) ∈ gtb := tb5 3 (by decide +kernel)
theorem seW_copyFrom : Cond.selects (nmT nW_copyFrom).cls (nmT nW_copyFrom) (nmT nW_copyFrom) ∈ gtb := tb5 4 (by decide +kernel)
theorem mlW_copyRow : ML nW_copyRow 2 := ⟨tb2 205 (by decide +kernel), tb0 2 (by decide +kernel), ⟨by decide +kernel, by decide +kernel, by decide +kernel⟩, by decide +kernel⟩
theorem stW_copyRow : Cond.static (nmT nW_copyRow) ∈ gtb := tb2 204 (by decide +kernel)
theorem mlW_isWind : ML nW_isWind 1 := ⟨tb3 32 (by decide +kernel), tb0 2 (by decide +kernel), ⟨by decide +kernel, by decide +kernel, by decide +kernel⟩, by decide +kernel⟩
theorem imW_isWind : Cond.instanceMethod (nmT nW_isWind) ∈ gtb := tb3 30 (by decide +kernel)
theorem seW_isWind : Cond.selects (nmT nW_isWind).cls (nmT nW_isWind) (nmT nW_isWind) ∈ gtb := tb3 31 (by decide +kernel)
theorem mlW_isHere : ML nW_isHere 1 := ⟨tb2 198 (by decide +kernel), tb0 2 (by decide +kernel), ⟨by decide +kernel, by decide +kernel, by decide +kernel⟩, by decide +kernel⟩
theorem imW_isHere : Cond.instanceMethod (nmT nW_isHere) ∈ gtb := tb2 196 (by decide +kernel)
theorem seW_isHere : Cond.selects (nmT nW_isHere).cls (nmT nW_isHere) (nmT nW_isHere) ∈ gtb := tb2 197 (by decide +kernel)
theorem mlW_weightOf : ML nW_weightOf 1 := ⟨tb3 69 (by decide +kernel), tb0 2 (by decide +kernel), ⟨by decide +kernel, by decide +kernel, by decide +kernel⟩, by decide +kernel⟩
theorem imW_weightOf : Cond.instanceMethod (nmT nW_weightOf) ∈ gtb := tb3 67 (by decide +kernel)
theorem seW_weightOf : Cond.selects (nmT nW_weightOf).cls (nmT nW_weightOf) (nmT nW_weightOf) ∈ gtb := tb3 68 (by decide +kernel)
theorem mlW_weightOfAll : ML nW_weightOfAll 0 := ⟨tb3 65 (by decide +kernel), tb0 2 (by decide +kernel), ⟨by decide +kernel, by decide +kernel, by decide +kernel⟩, by decide +kernel⟩
theorem imW_weightOfAll : Cond.instanceMethod (nmT nW_weightOfAll) ∈ gtb := tb3 63 (by decide +kernel)
theorem seW_weightOfAll : Cond.selects (nmT nW_weightOfAll).cls (nmT nW_weightOfAll) (nmT nW_weightOfAll) ∈ gtb := tb3 64 (by decide +kernel)
theorem mlW_isVillage : ML nW_isVillage 1 := ⟨tb1 184 (by decide +kernel), tb0 2 (by decide +kernel), ⟨by decide +kernel, by decide +kernel, by decide +kernel⟩, by decide +kernel⟩
theorem imW_isVillage : Cond.instanceMethod (nmT nW_isVillage) ∈ gtb := tb1 182 (by decide +kernel)
theorem seW_isVillage : Cond.selects (nmT nW_isVillage).cls (nmT nW_isVillage) (nmT nW_isVillage) ∈ gtb := tb1 183 (by decide +kernel)
theorem mlW_isText : ML nW_isText 1 := ⟨tb2 181 (by decide +kernel), tb0 2 (by decide +kernel), ⟨by decide +kernel, by decide +kernel, by decide +kernel⟩, by decide +kernel⟩
theorem imW_isText : Cond.instanceMethod (nmT nW_isText) ∈ gtb := tb2 179 (by decide +kernel)
theorem seW_isText : Cond.selects (nmT nW_isText).cls (nmT nW_isText) (nmT nW_isText) ∈ gtb := tb2 180 (by decide +kernel)
theorem mlW_daysLeft : ML nW_daysLeft 0 := ⟨tb3 1 (by decide +kernel), tb0 2 (by decide +kernel), ⟨by decide +kernel, by decide +kernel, by decide +kernel⟩, by decide +kernel⟩
theorem imW_daysLeft : Cond.instanceMethod (nmT nW_daysLeft) ∈ gtb := tb2 239 (by decide +kernel)
theorem seW_daysLeft : Cond.selects (nmT nW_daysLeft).cls (nmT nW_daysLeft) (nmT nW_daysLeft) ∈ gtb := tb3 0 (by decide +kernel)
theorem mlW_tellWind : ML nW_tellWind 3 := ⟨tb1 158 (by decide +kernel), tb0 2 (by decide +kernel), ⟨by decide +kernel, by decide +kernel, by decide +kernel⟩, by decide +kernel⟩
theorem imW_tellWind : Cond.instanceMethod (nmT nW_tellWind) ∈ gtb := tb1 156 (by decide +kernel)
theorem seW_tellWind : Cond.selects (nmT nW_tellWind).cls (nmT nW_tellWind) (nmT nW_tellWind) ∈ gtb := tb1 157 (by decide +kernel)
theorem mlW_setWind : ML nW_setWind 4 := ⟨tb1 161 (by decide +kernel), tb0 2 (by decide +kernel), ⟨by decide +kernel, by decide +kernel, by decide +kernel⟩, by decide +kernel⟩
theorem stW_setWind : Cond.static (nmT nW_setWind) ∈ gtb := tb1 160 (by decide +kernel)
theorem mlW_tellVillage : ML nW_tellVillage 2 := ⟨tb1 169 (by decide +kernel), tb0 2 (by decide +kernel), ⟨by decide +kernel, by decide +kernel, by decide +kernel⟩, by decide +kernel⟩
theorem imW_tellVillage : Cond.instanceMethod (nmT nW_tellVillage) ∈ gtb := tb1 167 (by decide +kernel)
theorem seW_tellVillage : Cond.selects (nmT nW_tellVillage).cls (nmT nW_tellVillage) (nmT nW_tellVillage) ∈ gtb := tb1 168 (by decide +kernel)
theorem mlW_setVillage : ML nW_setVillage 3 := ⟨tb1 172 (by decide +kernel), tb0 2 (by decide +kernel), ⟨by decide +kernel, by decide +kernel, by decide +kernel⟩, by decide +kernel⟩
theorem stW_setVillage : Cond.static (nmT nW_setVillage) ∈ gtb := tb1 171 (by decide +kernel)
theorem mlW_tellWay : ML nW_tellWay 3 := ⟨tb1 180 (by decide +kernel), tb0 2 (by decide +kernel), ⟨by decide +kernel, by decide +kernel, by decide +kernel⟩, by decide +kernel⟩
theorem imW_tellWay : Cond.instanceMethod (nmT nW_tellWay) ∈ gtb := tb1 178 (by decide +kernel)
theorem seW_tellWay : Cond.selects (nmT nW_tellWay).cls (nmT nW_tellWay) (nmT nW_tellWay) ∈ gtb := tb1 179 (by decide +kernel)
theorem mlW_lengthOf : ML nW_lengthOf 2 := ⟨tb4 105 (by decide +kernel), tb0 2 (by decide +kernel), ⟨by decide +kernel, by decide +kernel, by decide +kernel⟩, by decide +kernel⟩
theorem imW_lengthOf : Cond.instanceMethod (nmT nW_lengthOf) ∈ gtb := tb4 103 (by decide +kernel)
theorem seW_lengthOf : Cond.selects (nmT nW_lengthOf).cls (nmT nW_lengthOf) (nmT nW_lengthOf) ∈ gtb := tb4 104 (by decide +kernel)
theorem mlW_keepStep : ML nW_keepStep 0 := ⟨tb2 202 (by decide +kernel), tb0 2 (by decide +kernel), ⟨by decide +kernel, by decide +kernel, by decide +kernel⟩, by decide +kernel⟩
theorem imW_keepStep : Cond.instanceMethod (nmT nW_keepStep) ∈ gtb := tb2 200 (by decide +kernel)
theorem seW_keepStep : Cond.selects (nmT nW_keepStep).cls (nmT nW_keepStep) (nmT nW_keepStep) ∈ gtb := tb2 201 (by decide +kernel)
theorem mlW_takeBack : ML nW_takeBack 0 := ⟨tb3 138 (by decide +kernel), tb0 2 (by decide +kernel), ⟨by decide +kernel, by decide +kernel, by decide +kernel⟩, by decide +kernel⟩
theorem imW_takeBack : Cond.instanceMethod (nmT nW_takeBack) ∈ gtb := tb3 136 (by decide +kernel)
theorem seW_takeBack : Cond.selects (nmT nW_takeBack).cls (nmT nW_takeBack) (nmT nW_takeBack) ∈ gtb := tb3 137 (by decide +kernel)
theorem mlW_pages : ML nW_pages 0 := ⟨tb3 176 (by decide +kernel), tb0 2 (by decide +kernel), ⟨by decide +kernel, by decide +kernel, by decide +kernel⟩, by decide +kernel⟩
theorem imW_pages : Cond.instanceMethod (nmT nW_pages) ∈ gtb := tb3 174 (by decide +kernel)
theorem seW_pages : Cond.selects (nmT nW_pages).cls (nmT nW_pages) (nmT nW_pages) ∈ gtb := tb3 175 (by decide +kernel)
theorem mlW_writePage : ML nW_writePage 3 := ⟨tb3 95 (by decide +kernel), tb0 2 (by decide +kernel), ⟨by decide +kernel, by decide +kernel, by decide +kernel⟩, by decide +kernel⟩
theorem imW_writePage : Cond.instanceMethod (nmT nW_writePage) ∈ gtb := tb3 93 (by decide +kernel)
theorem seW_writePage : Cond.selects (nmT nW_writePage).cls (nmT nW_writePage) (nmT nW_writePage) ∈ gtb := tb3 94 (by decide +kernel)
theorem mlW_page : ML nW_page 2 := ⟨tb3 180 (by decide +kernel), tb0 2 (by decide +kernel), ⟨by decide +kernel, by decide +kernel, by decide +kernel⟩, by decide +kernel⟩
theorem imW_page : Cond.instanceMethod (nmT nW_page) ∈ gtb := tb3 178 (by decide +kernel)
theorem seW_page : Cond.selects (nmT nW_page).cls (nmT nW_page) (nmT nW_page) ∈ gtb := tb3 179 (by decide +kernel)
theorem lic_1 : Int32.ofInt 1 = 1 := by decide
theorem lic_2 : Int32.ofInt 2 = 2 := by decide
theorem lic_4 : Int32.ofInt 4 = 4 := by decide
theorem lib_8 : (Int8.ofInt 8).toInt32 = 8 := by decide
theorem lib_16 : (Int8.ofInt 16).toInt32 = 16 := by decide
theorem lib_63 : (Int8.ofInt 63).toInt32 = 63 := by decide
theorem lis_256 : (Int16.ofInt 256).toInt32 = 256 := by decide
theorem lic_8 : Int32.ofInt 8 = 8 := by decide
theorem lic_16 : Int32.ofInt 16 = 16 := by decide
theorem lic_m1 : Int32.ofInt (-1) = (-1) := by decide
theorem lib_32 : (Int8.ofInt 32).toInt32 = 32 := by decide
theorem lic_0 : Int32.ofInt 0 = 0 := by decide
theorem lis_255 : (Int16.ofInt 255).toInt32 = 255 := by decide
theorem lis_300 : (Int16.ofInt 300).toInt32 = 300 := by decide
theorem lib_20 : (Int8.ofInt 20).toInt32 = 20 := by decide
theorem lic_m8 : Int32.ofInt (-8) = (-8) := by decide
theorem lib_24 : (Int8.ofInt 24).toInt32 = 24 := by decide
theorem lib_60 : (Int8.ofInt 60).toInt32 = 60 := by decide
theorem lib_m2 : (Int8.ofInt (-2)).toInt32 = (-2) := by decide
theorem lib_42 : (Int8.ofInt 42).toInt32 = 42 := by decide
theorem lis_9999 : (Int16.ofInt 9999).toInt32 = 9999 := by decide
theorem lib_40 : (Int8.ofInt 40).toInt32 = 40 := by decide
theorem lis_m1000 : (Int16.ofInt (-1000)).toInt32 = (-1000) := by decide
theorem lib_6 : (Int8.ofInt 6).toInt32 = 6 := by decide
theorem lib_18 : (Int8.ofInt 18).toInt32 = 18 := by decide
theorem lib_12 : (Int8.ofInt 12).toInt32 = 12 := by decide
theorem lib_36 : (Int8.ofInt 36).toInt32 = 36 := by decide
theorem lib_30 : (Int8.ofInt 30).toInt32 = 30 := by decide
theorem lib_9 : (Int8.ofInt 9).toInt32 = 9 := by decide
theorem lib_43 : (Int8.ofInt 43).toInt32 = 43 := by decide
theorem lic_3 : Int32.ofInt 3 = 3 := by decide
theorem lic_5 : Int32.ofInt 5 = 5 := by decide
theorem lib_99 : (Int8.ofInt 99).toInt32 = 99 := by decide
theorem lis_999 : (Int16.ofInt 999).toInt32 = 999 := by decide
theorem lis_4016 : (Int16.ofInt 4016).toInt32 = 4016 := by decide
theorem lis_2820 : (Int16.ofInt 2820).toInt32 = 2820 := by decide
theorem lis_160 : (Int16.ofInt 160).toInt32 = 160 := by decide
theorem lis_330 : (Int16.ofInt 330).toInt32 = 330 := by decide
theorem lib_84 : (Int8.ofInt 84).toInt32 = 84 := by decide
theorem lib_100 : (Int8.ofInt 100).toInt32 = 100 := by decide
theorem lis_6000 : (Int16.ofInt 6000).toInt32 = 6000 := by decide
theorem lib_127 : (Int8.ofInt 127).toInt32 = 127 := by decide
theorem lib_10 : (Int8.ofInt 10).toInt32 = 10 := by decide
theorem lib_7 : (Int8.ofInt 7).toInt32 = 7 := by decide
theorem lib_65 : (Int8.ofInt 65).toInt32 = 65 := by decide
theorem lib_90 : (Int8.ofInt 90).toInt32 = 90 := by decide
theorem lib_97 : (Int8.ofInt 97).toInt32 = 97 := by decide
theorem lib_122 : (Int8.ofInt 122).toInt32 = 122 := by decide
theorem lib_48 : (Int8.ofInt 48).toInt32 = 48 := by decide
theorem lib_57 : (Int8.ofInt 57).toInt32 = 57 := by decide
theorem lib_61 : (Int8.ofInt 61).toInt32 = 61 := by decide
theorem lib_62 : (Int8.ofInt 62).toInt32 = 62 := by decide
theorem lil_0 : Int64.ofNat ((0 : Fin 2) : Nat) = 0 := by decide
theorem lib_112 : (Int8.ofInt 112).toInt32 = 112 := by decide
theorem lib_117 : (Int8.ofInt 117).toInt32 = 117 := by decide
theorem lib_114 : (Int8.ofInt 114).toInt32 = 114 := by decide
theorem lib_115 : (Int8.ofInt 115).toInt32 = 115 := by decide
theorem lib_101 : (Int8.ofInt 101).toInt32 = 101 := by decide
theorem lib_111 : (Int8.ofInt 111).toInt32 = 111 := by decide
theorem lib_102 : (Int8.ofInt 102).toInt32 = 102 := by decide
theorem lib_119 : (Int8.ofInt 119).toInt32 = 119 := by decide
theorem lib_105 : (Int8.ofInt 105).toInt32 = 105 := by decide
theorem lib_103 : (Int8.ofInt 103).toInt32 = 103 := by decide
theorem lib_104 : (Int8.ofInt 104).toInt32 = 104 := by decide
theorem lib_116 : (Int8.ofInt 116).toInt32 = 116 := by decide
theorem lib_113 : (Int8.ofInt 113).toInt32 = 113 := by decide
theorem lib_121 : (Int8.ofInt 121).toInt32 = 121 := by decide
theorem lib_21 : (Int8.ofInt 21).toInt32 = 21 := by decide
theorem lib_22 : (Int8.ofInt 22).toInt32 = 22 := by decide
theorem lib_110 : (Int8.ofInt 110).toInt32 = 110 := by decide
theorem lib_41 : (Int8.ofInt 41).toInt32 = 41 := by decide
theorem lib_98 : (Int8.ofInt 98).toInt32 = 98 := by decide
theorem lib_45 : (Int8.ofInt 45).toInt32 = 45 := by decide
theorem lib_35 : (Int8.ofInt 35).toInt32 = 35 := by decide
theorem lib_15 : (Int8.ofInt 15).toInt32 = 15 := by decide
theorem lib_14 : (Int8.ofInt 14).toInt32 = 14 := by decide
theorem lib_13 : (Int8.ofInt 13).toInt32 = 13 := by decide
theorem lib_11 : (Int8.ofInt 11).toInt32 = 11 := by decide
theorem lib_47 : (Int8.ofInt 47).toInt32 = 47 := by decide
theorem lib_109 : (Int8.ofInt 109).toInt32 = 109 := by decide
theorem lib_118 : (Int8.ofInt 118).toInt32 = 118 := by decide
theorem lib_108 : (Int8.ofInt 108).toInt32 = 108 := by decide
theorem lib_107 : (Int8.ofInt 107).toInt32 = 107 := by decide
theorem lib_59 : (Int8.ofInt 59).toInt32 = 59 := by decide
theorem lis_705 : (Int16.ofInt 705).toInt32 = 705 := by decide
theorem lic_m2 : Int32.ofInt (-2) = (-2) := by decide
theorem lis_1556 : (Int16.ofInt 1556).toInt32 = 1556 := by decide
theorem lis_1230 : (Int16.ofInt 1230).toInt32 = 1230 := by decide
theorem lis_10000 : (Int16.ofInt 10000).toInt32 = 10000 := by decide
theorem lis_1000 : (Int16.ofInt 1000).toInt32 = 1000 := by decide
theorem lis_m999 : (Int16.ofInt (-999)).toInt32 = (-999) := by decide
theorem lis_146 : (Int16.ofInt 146).toInt32 = 146 := by decide
theorem lis_1363 : (Int16.ofInt 1363).toInt32 = 1363 := by decide
theorem lis_193 : (Int16.ofInt 193).toInt32 = 193 := by decide
theorem lil_1 : Int64.ofNat ((1 : Fin 2) : Nat) = 1 := by decide
theorem lib_120 : (Int8.ofInt 120).toInt32 = 120 := by decide
theorem lis_136 : (Int16.ofInt 136).toInt32 = 136 := by decide
theorem lis_141 : (Int16.ofInt 141).toInt32 = 141 := by decide
theorem lis_353 : (Int16.ofInt 353).toInt32 = 353 := by decide
theorem lis_233 : (Int16.ofInt 233).toInt32 = 233 := by decide
theorem lis_30427 : (Int16.ofInt 30427).toInt32 = 30427 := by decide
theorem lib_75 : (Int8.ofInt 75).toInt32 = 75 := by decide
theorem lib_64 : (Int8.ofInt 64).toInt32 = 64 := by decide
theorem lis_10023 : (Int16.ofInt 10023).toInt32 = 10023 := by decide
theorem lis_10010 : (Int16.ofInt 10010).toInt32 = 10010 := by decide
theorem lis_10007 : (Int16.ofInt 10007).toInt32 = 10007 := by decide
theorem lib_96 : (Int8.ofInt 96).toInt32 = 96 := by decide
theorem lis_10006 : (Int16.ofInt 10006).toInt32 = 10006 := by decide
theorem lib_44 : (Int8.ofInt 44).toInt32 = 44 := by decide
theorem lic_6 : Int32.ofInt 6 = 6 := by decide
theorem fi10 (k : Nat) : ∀ C T N, cls[10]? = some (C, T, N) → (T k).2.2.2 = false ∨ (("<init>" : String) = "<init>" ∧ C = "OwedToWinds") := fun _ _ _ h => by cases h; exact Or.inr ⟨rfl, rfl⟩
theorem nf10_4 {mn own : String} : ∀ C T N, cls[10]? = some (C, T, N) → (T 4).2.2.2 = false ∨ (mn = "<init>" ∧ C = own) := fun _ _ _ h => by cases h; exact Or.inl rfl
theorem nf9_9 {mn own : String} : ∀ C T N, cls[9]? = some (C, T, N) → (T 9).2.2.2 = false ∨ (mn = "<init>" ∧ C = own) := fun _ _ _ h => by cases h; exact Or.inl rfl
theorem nf9_10 {mn own : String} : ∀ C T N, cls[9]? = some (C, T, N) → (T 10).2.2.2 = false ∨ (mn = "<init>" ∧ C = own) := fun _ _ _ h => by cases h; exact Or.inl rfl
theorem nf9_11 {mn own : String} : ∀ C T N, cls[9]? = some (C, T, N) → (T 11).2.2.2 = false ∨ (mn = "<init>" ∧ C = own) := fun _ _ _ h => by cases h; exact Or.inl rfl
theorem nf9_14 {mn own : String} : ∀ C T N, cls[9]? = some (C, T, N) → (T 14).2.2.2 = false ∨ (mn = "<init>" ∧ C = own) := fun _ _ _ h => by cases h; exact Or.inl rfl
theorem nf9_16 {mn own : String} : ∀ C T N, cls[9]? = some (C, T, N) → (T 16).2.2.2 = false ∨ (mn = "<init>" ∧ C = own) := fun _ _ _ h => by cases h; exact Or.inl rfl
theorem fi11 (k : Nat) : ∀ C T N, cls[11]? = some (C, T, N) → (T k).2.2.2 = false ∨ (("<init>" : String) = "<init>" ∧ C = "OwedToWindsModel") := fun _ _ _ h => by cases h; exact Or.inr ⟨rfl, rfl⟩
theorem nf11_5 {mn own : String} : ∀ C T N, cls[11]? = some (C, T, N) → (T 5).2.2.2 = false ∨ (mn = "<init>" ∧ C = own) := fun _ _ _ h => by cases h; exact Or.inl rfl
theorem nf11_6 {mn own : String} : ∀ C T N, cls[11]? = some (C, T, N) → (T 6).2.2.2 = false ∨ (mn = "<init>" ∧ C = own) := fun _ _ _ h => by cases h; exact Or.inl rfl
theorem nf11_24 {mn own : String} : ∀ C T N, cls[11]? = some (C, T, N) → (T 24).2.2.2 = false ∨ (mn = "<init>" ∧ C = own) := fun _ _ _ h => by cases h; exact Or.inl rfl
theorem nf11_4 {mn own : String} : ∀ C T N, cls[11]? = some (C, T, N) → (T 4).2.2.2 = false ∨ (mn = "<init>" ∧ C = own) := fun _ _ _ h => by cases h; exact Or.inl rfl
theorem nf11_9 {mn own : String} : ∀ C T N, cls[11]? = some (C, T, N) → (T 9).2.2.2 = false ∨ (mn = "<init>" ∧ C = own) := fun _ _ _ h => by cases h; exact Or.inl rfl
theorem nf11_7 {mn own : String} : ∀ C T N, cls[11]? = some (C, T, N) → (T 7).2.2.2 = false ∨ (mn = "<init>" ∧ C = own) := fun _ _ _ h => by cases h; exact Or.inl rfl
theorem nf11_11 {mn own : String} : ∀ C T N, cls[11]? = some (C, T, N) → (T 11).2.2.2 = false ∨ (mn = "<init>" ∧ C = own) := fun _ _ _ h => by cases h; exact Or.inl rfl
theorem nf11_10 {mn own : String} : ∀ C T N, cls[11]? = some (C, T, N) → (T 10).2.2.2 = false ∨ (mn = "<init>" ∧ C = own) := fun _ _ _ h => by cases h; exact Or.inl rfl
theorem nf11_8 {mn own : String} : ∀ C T N, cls[11]? = some (C, T, N) → (T 8).2.2.2 = false ∨ (mn = "<init>" ∧ C = own) := fun _ _ _ h => by cases h; exact Or.inl rfl
theorem nf11_13 {mn own : String} : ∀ C T N, cls[11]? = some (C, T, N) → (T 13).2.2.2 = false ∨ (mn = "<init>" ∧ C = own) := fun _ _ _ h => by cases h; exact Or.inl rfl
theorem nf11_17 {mn own : String} : ∀ C T N, cls[11]? = some (C, T, N) → (T 17).2.2.2 = false ∨ (mn = "<init>" ∧ C = own) := fun _ _ _ h => by cases h; exact Or.inl rfl
theorem nf11_16 {mn own : String} : ∀ C T N, cls[11]? = some (C, T, N) → (T 16).2.2.2 = false ∨ (mn = "<init>" ∧ C = own) := fun _ _ _ h => by cases h; exact Or.inl rfl
theorem nf11_18 {mn own : String} : ∀ C T N, cls[11]? = some (C, T, N) → (T 18).2.2.2 = false ∨ (mn = "<init>" ∧ C = own) := fun _ _ _ h => by cases h; exact Or.inl rfl
theorem nf11_19 {mn own : String} : ∀ C T N, cls[11]? = some (C, T, N) → (T 19).2.2.2 = false ∨ (mn = "<init>" ∧ C = own) := fun _ _ _ h => by cases h; exact Or.inl rfl
theorem nf11_14 {mn own : String} : ∀ C T N, cls[11]? = some (C, T, N) → (T 14).2.2.2 = false ∨ (mn = "<init>" ∧ C = own) := fun _ _ _ h => by cases h; exact Or.inl rfl
theorem nf11_20 {mn own : String} : ∀ C T N, cls[11]? = some (C, T, N) → (T 20).2.2.2 = false ∨ (mn = "<init>" ∧ C = own) := fun _ _ _ h => by cases h; exact Or.inl rfl
theorem nf11_12 {mn own : String} : ∀ C T N, cls[11]? = some (C, T, N) → (T 12).2.2.2 = false ∨ (mn = "<init>" ∧ C = own) := fun _ _ _ h => by cases h; exact Or.inl rfl
theorem nf11_25 {mn own : String} : ∀ C T N, cls[11]? = some (C, T, N) → (T 25).2.2.2 = false ∨ (mn = "<init>" ∧ C = own) := fun _ _ _ h => by cases h; exact Or.inl rfl
theorem nf11_26 {mn own : String} : ∀ C T N, cls[11]? = some (C, T, N) → (T 26).2.2.2 = false ∨ (mn = "<init>" ∧ C = own) := fun _ _ _ h => by cases h; exact Or.inl rfl
theorem nf11_27 {mn own : String} : ∀ C T N, cls[11]? = some (C, T, N) → (T 27).2.2.2 = false ∨ (mn = "<init>" ∧ C = own) := fun _ _ _ h => by cases h; exact Or.inl rfl
theorem nf11_28 {mn own : String} : ∀ C T N, cls[11]? = some (C, T, N) → (T 28).2.2.2 = false ∨ (mn = "<init>" ∧ C = own) := fun _ _ _ h => by cases h; exact Or.inl rfl
theorem nf11_35 {mn own : String} : ∀ C T N, cls[11]? = some (C, T, N) → (T 35).2.2.2 = false ∨ (mn = "<init>" ∧ C = own) := fun _ _ _ h => by cases h; exact Or.inl rfl
theorem fi0 (k : Nat) : ∀ C T N, cls[0]? = some (C, T, N) → (T k).2.2.2 = false ∨ (("<init>" : String) = "<init>" ∧ C = "OwedToWinds$Coins") := fun _ _ _ h => by cases h; exact Or.inr ⟨rfl, rfl⟩
theorem nf1_2 {mn own : String} : ∀ C T N, cls[1]? = some (C, T, N) → (T 2).2.2.2 = false ∨ (mn = "<init>" ∧ C = own) := fun _ _ _ h => by cases h; exact Or.inl rfl
theorem nf1_3 {mn own : String} : ∀ C T N, cls[1]? = some (C, T, N) → (T 3).2.2.2 = false ∨ (mn = "<init>" ∧ C = own) := fun _ _ _ h => by cases h; exact Or.inl rfl
theorem nf1_4 {mn own : String} : ∀ C T N, cls[1]? = some (C, T, N) → (T 4).2.2.2 = false ∨ (mn = "<init>" ∧ C = own) := fun _ _ _ h => by cases h; exact Or.inl rfl
theorem fi1 (k : Nat) : ∀ C T N, cls[1]? = some (C, T, N) → (T k).2.2.2 = false ∨ (("<init>" : String) = "<init>" ∧ C = "OwedToWinds$Days") := fun _ _ _ h => by cases h; exact Or.inr ⟨rfl, rfl⟩
theorem fi2 (k : Nat) : ∀ C T N, cls[2]? = some (C, T, N) → (T k).2.2.2 = false ∨ (("<init>" : String) = "<init>" ∧ C = "OwedToWinds$Foresight") := fun _ _ _ h => by cases h; exact Or.inr ⟨rfl, rfl⟩
theorem nf2_3 {mn own : String} : ∀ C T N, cls[2]? = some (C, T, N) → (T 3).2.2.2 = false ∨ (mn = "<init>" ∧ C = own) := fun _ _ _ h => by cases h; exact Or.inl rfl
theorem nf2_4 {mn own : String} : ∀ C T N, cls[2]? = some (C, T, N) → (T 4).2.2.2 = false ∨ (mn = "<init>" ∧ C = own) := fun _ _ _ h => by cases h; exact Or.inl rfl
theorem nf2_5 {mn own : String} : ∀ C T N, cls[2]? = some (C, T, N) → (T 5).2.2.2 = false ∨ (mn = "<init>" ∧ C = own) := fun _ _ _ h => by cases h; exact Or.inl rfl
theorem nf2_6 {mn own : String} : ∀ C T N, cls[2]? = some (C, T, N) → (T 6).2.2.2 = false ∨ (mn = "<init>" ∧ C = own) := fun _ _ _ h => by cases h; exact Or.inl rfl
theorem nf2_8 {mn own : String} : ∀ C T N, cls[2]? = some (C, T, N) → (T 8).2.2.2 = false ∨ (mn = "<init>" ∧ C = own) := fun _ _ _ h => by cases h; exact Or.inl rfl
theorem nf3_0 {mn own : String} : ∀ C T N, cls[3]? = some (C, T, N) → (T 0).2.2.2 = false ∨ (mn = "<init>" ∧ C = own) := fun _ _ _ h => by cases h; exact Or.inl rfl
theorem nf3_1 {mn own : String} : ∀ C T N, cls[3]? = some (C, T, N) → (T 1).2.2.2 = false ∨ (mn = "<init>" ∧ C = own) := fun _ _ _ h => by cases h; exact Or.inl rfl
theorem fi4 (k : Nat) : ∀ C T N, cls[4]? = some (C, T, N) → (T k).2.2.2 = false ∨ (("<init>" : String) = "<init>" ∧ C = "OwedToWinds$Laws") := fun _ _ _ h => by cases h; exact Or.inr ⟨rfl, rfl⟩
theorem nf5_1 {mn own : String} : ∀ C T N, cls[5]? = some (C, T, N) → (T 1).2.2.2 = false ∨ (mn = "<init>" ∧ C = own) := fun _ _ _ h => by cases h; exact Or.inl rfl
theorem nf5_2 {mn own : String} : ∀ C T N, cls[5]? = some (C, T, N) → (T 2).2.2.2 = false ∨ (mn = "<init>" ∧ C = own) := fun _ _ _ h => by cases h; exact Or.inl rfl
theorem nf5_3 {mn own : String} : ∀ C T N, cls[5]? = some (C, T, N) → (T 3).2.2.2 = false ∨ (mn = "<init>" ∧ C = own) := fun _ _ _ h => by cases h; exact Or.inl rfl
theorem nf5_4 {mn own : String} : ∀ C T N, cls[5]? = some (C, T, N) → (T 4).2.2.2 = false ∨ (mn = "<init>" ∧ C = own) := fun _ _ _ h => by cases h; exact Or.inl rfl
theorem nf5_5 {mn own : String} : ∀ C T N, cls[5]? = some (C, T, N) → (T 5).2.2.2 = false ∨ (mn = "<init>" ∧ C = own) := fun _ _ _ h => by cases h; exact Or.inl rfl
theorem nf5_6 {mn own : String} : ∀ C T N, cls[5]? = some (C, T, N) → (T 6).2.2.2 = false ∨ (mn = "<init>" ∧ C = own) := fun _ _ _ h => by cases h; exact Or.inl rfl
theorem nf5_7 {mn own : String} : ∀ C T N, cls[5]? = some (C, T, N) → (T 7).2.2.2 = false ∨ (mn = "<init>" ∧ C = own) := fun _ _ _ h => by cases h; exact Or.inl rfl
theorem nf5_8 {mn own : String} : ∀ C T N, cls[5]? = some (C, T, N) → (T 8).2.2.2 = false ∨ (mn = "<init>" ∧ C = own) := fun _ _ _ h => by cases h; exact Or.inl rfl
theorem nf5_9 {mn own : String} : ∀ C T N, cls[5]? = some (C, T, N) → (T 9).2.2.2 = false ∨ (mn = "<init>" ∧ C = own) := fun _ _ _ h => by cases h; exact Or.inl rfl
theorem fi5 (k : Nat) : ∀ C T N, cls[5]? = some (C, T, N) → (T k).2.2.2 = false ∨ (("<init>" : String) = "<init>" ∧ C = "OwedToWinds$Reader") := fun _ _ _ h => by cases h; exact Or.inr ⟨rfl, rfl⟩
theorem nf5_11 {mn own : String} : ∀ C T N, cls[5]? = some (C, T, N) → (T 11).2.2.2 = false ∨ (mn = "<init>" ∧ C = own) := fun _ _ _ h => by cases h; exact Or.inl rfl
theorem nf5_12 {mn own : String} : ∀ C T N, cls[5]? = some (C, T, N) → (T 12).2.2.2 = false ∨ (mn = "<init>" ∧ C = own) := fun _ _ _ h => by cases h; exact Or.inl rfl
theorem nf5_13 {mn own : String} : ∀ C T N, cls[5]? = some (C, T, N) → (T 13).2.2.2 = false ∨ (mn = "<init>" ∧ C = own) := fun _ _ _ h => by cases h; exact Or.inl rfl
theorem nf5_14 {mn own : String} : ∀ C T N, cls[5]? = some (C, T, N) → (T 14).2.2.2 = false ∨ (mn = "<init>" ∧ C = own) := fun _ _ _ h => by cases h; exact Or.inl rfl
theorem fi6 (k : Nat) : ∀ C T N, cls[6]? = some (C, T, N) → (T k).2.2.2 = false ∨ (("<init>" : String) = "<init>" ∧ C = "OwedToWinds$Riddles") := fun _ _ _ h => by cases h; exact Or.inr ⟨rfl, rfl⟩
theorem fi7 (k : Nat) : ∀ C T N, cls[7]? = some (C, T, N) → (T k).2.2.2 = false ∨ (("<init>" : String) = "<init>" ∧ C = "OwedToWinds$Text") := fun _ _ _ h => by cases h; exact Or.inr ⟨rfl, rfl⟩
theorem nf7_1 {mn own : String} : ∀ C T N, cls[7]? = some (C, T, N) → (T 1).2.2.2 = false ∨ (mn = "<init>" ∧ C = own) := fun _ _ _ h => by cases h; exact Or.inl rfl
theorem nf7_5 {mn own : String} : ∀ C T N, cls[7]? = some (C, T, N) → (T 5).2.2.2 = false ∨ (mn = "<init>" ∧ C = own) := fun _ _ _ h => by cases h; exact Or.inl rfl
theorem fi9 (k : Nat) : ∀ C T N, cls[9]? = some (C, T, N) → (T k).2.2.2 = false ∨ (("<init>" : String) = "<init>" ∧ C = "OwedToWinds$World") := fun _ _ _ h => by cases h; exact Or.inr ⟨rfl, rfl⟩
theorem nf9_2 {mn own : String} : ∀ C T N, cls[9]? = some (C, T, N) → (T 2).2.2.2 = false ∨ (mn = "<init>" ∧ C = own) := fun _ _ _ h => by cases h; exact Or.inl rfl
theorem nf9_3 {mn own : String} : ∀ C T N, cls[9]? = some (C, T, N) → (T 3).2.2.2 = false ∨ (mn = "<init>" ∧ C = own) := fun _ _ _ h => by cases h; exact Or.inl rfl
theorem nf9_4 {mn own : String} : ∀ C T N, cls[9]? = some (C, T, N) → (T 4).2.2.2 = false ∨ (mn = "<init>" ∧ C = own) := fun _ _ _ h => by cases h; exact Or.inl rfl
theorem nf9_6 {mn own : String} : ∀ C T N, cls[9]? = some (C, T, N) → (T 6).2.2.2 = false ∨ (mn = "<init>" ∧ C = own) := fun _ _ _ h => by cases h; exact Or.inl rfl
theorem lkI_265 : Cond.constant "java/lang/Integer" 265 1431655765 ∈ gtb := tb4 63 (by decide +kernel)
theorem lkI_266 : Cond.constant "java/lang/Integer" 266 858993459 ∈ gtb := tb4 64 (by decide +kernel)
theorem lkI_267 : Cond.constant "java/lang/Integer" 267 252645135 ∈ gtb := tb4 65 (by decide +kernel)
theorem lkI_264 : Cond.constant "java/lang/Integer" 264 65536 ∈ gtb := tb4 195 (by decide +kernel)
theorem lkS_335 : VL "java/lang/String" 335 nS_coder 0 := ⟨mlS_coder, tb1 233 (by decide +kernel), imS_coder, seS_coder⟩
theorem lkS_9 : Cond.fieldLink "java/lang/String" 9 "java/lang/String" "value" "[B" ∈ gtb := tb8 24 (by decide +kernel)
theorem lkS_38 : Cond.fieldLink "java/lang/String" 38 "java/lang/String" "COMPACT_STRINGS" "Z" ∈ gtb := tb1 237 (by decide +kernel)
theorem lkS_15 : Cond.fieldLink "java/lang/String" 15 "java/lang/String" "coder" "B" ∈ gtb := tb8 25 (by decide +kernel)
theorem lkS_495 : SL "java/lang/String" 495 nU_charAt 2 := ⟨mlU_charAt, tb2 7 (by decide +kernel), stU_charAt⟩
theorem lkS_492 : VL "java/lang/String" 492 nS_isLatin1 0 := ⟨mlS_isLatin1, tb2 3 (by decide +kernel), imS_isLatin1, seS_isLatin1⟩
theorem lkS_1053 : Cond.fieldLink "java/lang/String" 1053 "jdk/internal/util/Preconditions" "SIOOBE_FORMATTER" "Ljava/util/function/BiFunction;" ∈ gtb := tb2 13 (by decide +kernel)
theorem lkS_1059 : SL "java/lang/String" 1059 nP_checkIndex 3 := ⟨mlP_checkIndex, tb2 15 (by decide +kernel), stP_checkIndex⟩
theorem lkU_9 : SL "java/lang/StringLatin1" 9 nS_checkIndex 2 := ⟨mlS_checkIndex, tb2 10 (by decide +kernel), stS_checkIndex⟩
theorem lkX_87 : FL "OwedToWinds" 87 10 8 := ⟨RX10, TX10, 12, rfl, by decide, by decide, tb1 122 (by decide +kernel)⟩
theorem lkX_80 : FL "OwedToWinds" 80 10 7 := ⟨RX10, TX10, 12, rfl, by decide, by decide, tb1 121 (by decide +kernel)⟩
theorem lkX_84 : NL "OwedToWinds" 84 6 := ⟨RX6, TX6, 6, rfl, by decide, tb1 87 (by decide +kernel)⟩
theorem lkX_10 : FL "OwedToWinds" 10 10 0 := ⟨RX10, TX10, 12, rfl, by decide, by decide, tb1 114 (by decide +kernel)⟩
theorem lkX_62 : FL "OwedToWinds" 62 10 9 := ⟨RX10, TX10, 12, rfl, by decide, by decide, tb1 123 (by decide +kernel)⟩
theorem lkX_86 : IL "OwedToWinds" 86 nZ_init 2 := ⟨mlZ_init, by decide +kernel, by decide +kernel, tb1 89 (by decide +kernel), imZ_init⟩
theorem lkX_71 : FL "OwedToWinds" 71 10 6 := ⟨RX10, TX10, 12, rfl, by decide, by decide, tb1 120 (by decide +kernel)⟩
theorem lkX_75 : NL "OwedToWinds" 75 2 := ⟨RX2, TX2, 10, rfl, by decide, tb1 45 (by decide +kernel)⟩
theorem lkX_77 : IL "OwedToWinds" 77 nF_init 2 := ⟨mlF_init, by decide +kernel, by decide +kernel, tb1 47 (by decide +kernel), imF_init⟩
theorem lkX_66 : NL "OwedToWinds" 66 1 := ⟨RX1, TX1, 5, rfl, by decide, tb1 21 (by decide +kernel)⟩
theorem lkX_68 : IL "OwedToWinds" 68 nD_init 2 := ⟨mlD_init, by decide +kernel, by decide +kernel, tb1 23 (by decide +kernel), imD_init⟩
theorem lkX_57 : NL "OwedToWinds" 57 4 := ⟨RX4, TX4, 3, rfl, by decide, tb1 5 (by decide +kernel)⟩
theorem lkX_21 : FL "OwedToWinds" 21 10 2 := ⟨RX10, TX10, 12, rfl, by decide, by decide, tb1 116 (by decide +kernel)⟩
theorem lkX_59 : IL "OwedToWinds" 59 nL_init 2 := ⟨mlL_init, by decide +kernel, by decide +kernel, tb1 7 (by decide +kernel), imL_init⟩
theorem lkX_19 : NL "OwedToWinds" 19 7 := ⟨RX7, TX7, 6, rfl, by decide, tb0 129 (by decide +kernel)⟩
theorem lkX_56 : ILn "OwedToWinds" 56 nT_init 0 := ⟨mlT_init, by decide +kernel, by decide +kernel, ⟨"OwedToWinds", tb0 216 (by decide +kernel)⟩, imT_init⟩
theorem lkX_52 : FL "OwedToWinds" 52 10 11 := ⟨RX10, TX10, 12, rfl, by decide, by decide, tb1 125 (by decide +kernel)⟩
theorem lkX_45 : FL "OwedToWinds" 45 10 10 := ⟨RX10, TX10, 12, rfl, by decide, by decide, tb1 124 (by decide +kernel)⟩
theorem lkX_49 : NL "OwedToWinds" 49 0 := ⟨RX0, TX0, 1, rfl, by decide, tb0 204 (by decide +kernel)⟩
theorem lkX_51 : ILn "OwedToWinds" 51 nC_init 0 := ⟨mlC_init, by decide +kernel, by decide +kernel, ⟨"OwedToWinds", tb0 206 (by decide +kernel)⟩, imC_init⟩
theorem lkX_38 : FL "OwedToWinds" 38 10 5 := ⟨RX10, TX10, 12, rfl, by decide, by decide, tb1 119 (by decide +kernel)⟩
theorem lkX_42 : NL "OwedToWinds" 42 3 := ⟨RX3, TX3, 2, rfl, by decide, tb0 189 (by decide +kernel)⟩
theorem lkX_44 : ILn "OwedToWinds" 44 nQ_init 0 := ⟨mlQ_init, by decide +kernel, by decide +kernel, ⟨"OwedToWinds", tb0 191 (by decide +kernel)⟩, imQ_init⟩
theorem lkX_16 : FL "OwedToWinds" 16 10 1 := ⟨RX10, TX10, 12, rfl, by decide, by decide, tb1 115 (by decide +kernel)⟩
theorem lkX_25 : FL "OwedToWinds" 25 10 3 := ⟨RX10, TX10, 12, rfl, by decide, by decide, tb1 117 (by decide +kernel)⟩
theorem lkX_29 : FL "OwedToWinds" 29 10 4 := ⟨RX10, TX10, 12, rfl, by decide, by decide, tb1 118 (by decide +kernel)⟩
theorem lkX_33 : NL "OwedToWinds" 33 5 := ⟨RX5, TX5, 15, rfl, by decide, tb0 131 (by decide +kernel)⟩
theorem lkX_35 : IL "OwedToWinds" 35 nR_init 1 := ⟨mlR_init, by decide +kernel, by decide +kernel, tb0 133 (by decide +kernel), imR_init⟩
theorem lkX_7 : NL "OwedToWinds" 7 9 := ⟨RX9, TX9, 18, rfl, by decide, tb0 29 (by decide +kernel)⟩
theorem lkX_9 : IL "OwedToWinds" 9 nW_init 0 := ⟨mlW_init, by decide +kernel, by decide +kernel, tb0 31 (by decide +kernel), imW_init⟩
theorem lkX_1 : Cond.methodLink "OwedToWinds" 1 Lib.objectInit ∈ gtb := tb0 26 (by decide +kernel)
theorem lkX_91 : VL "OwedToWinds" 91 nW_tellWind 3 := ⟨mlW_tellWind, tb1 155 (by decide +kernel), imW_tellWind, seW_tellWind⟩
theorem lkX_95 : VL "OwedToWinds" 95 nW_tellVillage 2 := ⟨mlW_tellVillage, tb1 166 (by decide +kernel), imW_tellVillage, seW_tellVillage⟩
theorem lkX_99 : VL "OwedToWinds" 99 nW_tellWay 3 := ⟨mlW_tellWay, tb1 177 (by decide +kernel), imW_tellWay, seW_tellWay⟩
theorem lkX_103 : VL "OwedToWinds" 103 nX_feedFour 1 := ⟨mlX_feedFour, tb1 189 (by decide +kernel), imX_feedFour, seX_feedFour⟩
theorem lkX_107 : FL "OwedToWinds" 107 9 9 := ⟨RX9, TX9, 18, rfl, by decide, by decide, tb0 66 (by decide +kernel)⟩
theorem lkX_109 : VL "OwedToWinds" 109 nR_read 2 := ⟨mlR_read, tb1 201 (by decide +kernel), imR_read, seR_read⟩
theorem lkX_116 : FL "OwedToWinds" 116 5 14 := ⟨RX5, TX5, 15, rfl, by decide, by decide, tb0 157 (by decide +kernel)⟩
theorem lkX_113 : FL "OwedToWinds" 113 5 13 := ⟨RX5, TX5, 15, rfl, by decide, by decide, tb0 155 (by decide +kernel)⟩
theorem lkX_123 : FL "OwedToWinds" 123 9 10 := ⟨RX9, TX9, 18, rfl, by decide, by decide, tb0 70 (by decide +kernel)⟩
theorem lkX_119 : VL "OwedToWinds" 119 nW_isText 1 := ⟨mlW_isText, tb2 178 (by decide +kernel), imW_isText, seW_isText⟩
theorem lkX_126 : VL "OwedToWinds" 126 nD_payByHand 3 := ⟨mlD_payByHand, tb2 186 (by decide +kernel), imD_payByHand, seD_payByHand⟩
theorem lkX_129 : VL "OwedToWinds" 129 nD_mergeByHand 2 := ⟨mlD_mergeByHand, tb2 218 (by decide +kernel), imD_mergeByHand, seD_mergeByHand⟩
theorem lkX_142 : FL "OwedToWinds" 142 1 4 := ⟨RX1, TX1, 5, rfl, by decide, by decide, tb1 33 (by decide +kernel)⟩
theorem lkX_139 : VL "OwedToWinds" 139 nD_pass 0 := ⟨mlD_pass, tb3 3 (by decide +kernel), imD_pass, seD_pass⟩
theorem lkX_136 : VL "OwedToWinds" 136 nW_keepStep 0 := ⟨mlW_keepStep, tb3 2 (by decide +kernel), imW_keepStep, seW_keepStep⟩
theorem lkX_132 : VL "OwedToWinds" 132 nW_daysLeft 0 := ⟨mlW_daysLeft, tb2 238 (by decide +kernel), imW_daysLeft, seW_daysLeft⟩
theorem lkX_145 : VL "OwedToWinds" 145 nD_play 1 := ⟨mlD_play, tb3 100 (by decide +kernel), imD_play, seD_play⟩
theorem lkX_153 : FL "OwedToWinds" 153 9 0 := ⟨RX9, TX9, 18, rfl, by decide, by decide, tb0 42 (by decide +kernel)⟩
theorem lkX_149 : VL "OwedToWinds" 149 nD_passYears 2 := ⟨mlD_passYears, tb3 119 (by decide +kernel), imD_passYears, seD_passYears⟩
theorem lkX_160 : FL "OwedToWinds" 160 9 3 := ⟨RX9, TX9, 18, rfl, by decide, by decide, tb0 46 (by decide +kernel)⟩
theorem lkX_156 : VL "OwedToWinds" 156 nW_takeBack 0 := ⟨mlW_takeBack, tb3 135 (by decide +kernel), imW_takeBack, seW_takeBack⟩
theorem lkX_176 : VL "OwedToWinds" 176 nL_duesOf 1 := ⟨mlL_duesOf, tb3 146 (by decide +kernel), imL_duesOf, seL_duesOf⟩
theorem lkX_173 : VL "OwedToWinds" 173 nL_comesOf 1 := ⟨mlL_comesOf, tb3 145 (by decide +kernel), imL_comesOf, seL_comesOf⟩
theorem lkX_169 : VL "OwedToWinds" 169 nL_blowsOf 1 := ⟨mlL_blowsOf, tb3 144 (by decide +kernel), imL_blowsOf, seL_blowsOf⟩
theorem lkX_166 : FL "OwedToWinds" 166 9 5 := ⟨RX9, TX9, 18, rfl, by decide, by decide, tb0 55 (by decide +kernel)⟩
theorem lkX_163 : VL "OwedToWinds" 163 nW_isWind 1 := ⟨mlW_isWind, tb3 143 (by decide +kernel), imW_isWind, seW_isWind⟩
theorem lkX_185 : VL "OwedToWinds" 185 nL_catchOf 3 := ⟨mlL_catchOf, tb3 152 (by decide +kernel), imL_catchOf, seL_catchOf⟩
theorem lkX_182 : FL "OwedToWinds" 182 9 7 := ⟨RX9, TX9, 18, rfl, by decide, by decide, tb0 63 (by decide +kernel)⟩
theorem lkX_179 : VL "OwedToWinds" 179 nW_isVillage 1 := ⟨mlW_isVillage, tb3 151 (by decide +kernel), imW_isVillage, seW_isVillage⟩
theorem lkX_191 : VL "OwedToWinds" 191 nL_takesOf 3 := ⟨mlL_takesOf, tb3 160 (by decide +kernel), imL_takesOf, seL_takesOf⟩
theorem lkX_188 : SL "OwedToWinds" 188 nX_isForce 1 := ⟨mlX_isForce, tb3 157 (by decide +kernel), stX_isForce⟩
theorem lkX_197 : VL "OwedToWinds" 197 nW_page 2 := ⟨mlW_page, tb3 177 (by decide +kernel), imW_page, seW_page⟩
theorem lkX_194 : VL "OwedToWinds" 194 nW_pages 0 := ⟨mlW_pages, tb3 173 (by decide +kernel), imW_pages, seW_pages⟩
theorem lkX_203 : VL "OwedToWinds" 203 nF_taken 1 := ⟨mlF_taken, tb3 191 (by decide +kernel), imF_taken, seF_taken⟩
theorem lkX_200 : SL "OwedToWinds" 200 nX_isFar 1 := ⟨mlX_isFar, tb3 188 (by decide +kernel), stX_isFar⟩
theorem lkX_206 : VL "OwedToWinds" 206 nF_later 2 := ⟨mlF_later, tb3 220 (by decide +kernel), imF_later, seF_later⟩
theorem lkX_209 : VL "OwedToWinds" 209 nF_daysToArrears 0 := ⟨mlF_daysToArrears, tb3 232 (by decide +kernel), imF_daysToArrears, seF_daysToArrears⟩
theorem lkX_212 : VL "OwedToWinds" 212 nF_daysToBroke 1 := ⟨mlF_daysToBroke, tb4 13 (by decide +kernel), imF_daysToBroke, seF_daysToBroke⟩
theorem lkX_215 : VL "OwedToWinds" 215 nF_mildestText 1 := ⟨mlF_mildestText, tb4 21 (by decide +kernel), imF_mildestText, seF_mildestText⟩
theorem lkX_228 : FL "OwedToWinds" 228 3 0 := ⟨RX3, TX3, 2, rfl, by decide, by decide, tb0 196 (by decide +kernel)⟩
theorem lkX_224 : FL "OwedToWinds" 224 3 1 := ⟨RX3, TX3, 2, rfl, by decide, by decide, tb0 198 (by decide +kernel)⟩
theorem lkX_220 : VL "OwedToWinds" 220 nQ_setOdds 3 := ⟨mlQ_setOdds, tb4 30 (by decide +kernel), imQ_setOdds, seQ_setOdds⟩
theorem lkX_218 : Cond.constantLong "OwedToWinds" 218 (-1) ∈ gtb := tb4 29 (by decide +kernel)
theorem lkX_237 : FL "OwedToWinds" 237 2 3 := ⟨RX2, TX2, 10, rfl, by decide, by decide, tb1 55 (by decide +kernel)⟩
theorem lkX_234 : FL "OwedToWinds" 234 2 4 := ⟨RX2, TX2, 10, rfl, by decide, by decide, tb1 57 (by decide +kernel)⟩
theorem lkX_231 : VL "OwedToWinds" 231 nF_findLeast 2 := ⟨mlF_findLeast, tb4 44 (by decide +kernel), imF_findLeast, seF_findLeast⟩
theorem lkX_251 : FL "OwedToWinds" 251 6 2 := ⟨RX6, TX6, 6, rfl, by decide, by decide, tb1 96 (by decide +kernel)⟩
theorem lkX_254 : VL "OwedToWinds" 254 nQ_setShare 3 := ⟨mlQ_setShare, tb4 71 (by decide +kernel), imQ_setShare, seQ_setShare⟩
theorem lkX_248 : VL "OwedToWinds" 248 nZ_findTakes 2 := ⟨mlZ_findTakes, tb4 66 (by decide +kernel), imZ_findTakes, seZ_findTakes⟩
theorem lkX_243 : SL "OwedToWinds" 243 nJ_bitCount 1 := ⟨mlJ_bitCount, tb4 60 (by decide +kernel), stJ_bitCount⟩
theorem lkX_240 : FL "OwedToWinds" 240 9 6 := ⟨RX9, TX9, 18, rfl, by decide, by decide, tb0 60 (by decide +kernel)⟩
theorem lkX_267 : FL "OwedToWinds" 267 2 9 := ⟨RX2, TX2, 10, rfl, by decide, by decide, tb1 65 (by decide +kernel)⟩
theorem lkX_264 : VL "OwedToWinds" 264 nF_lastAhead 1 := ⟨mlF_lastAhead, tb4 110 (by decide +kernel), imF_lastAhead, seF_lastAhead⟩
theorem lkX_261 : VL "OwedToWinds" 261 nF_isReached 1 := ⟨mlF_isReached, tb4 106 (by decide +kernel), imF_isReached, seF_isReached⟩
theorem lkX_258 : VL "OwedToWinds" 258 nF_setOut 1 := ⟨mlF_setOut, tb4 86 (by decide +kernel), imF_setOut, seF_setOut⟩
theorem lkX_273 : FL "OwedToWinds" 273 9 12 := ⟨RX9, TX9, 18, rfl, by decide, by decide, tb0 77 (by decide +kernel)⟩
theorem lkX_270 : FL "OwedToWinds" 270 9 11 := ⟨RX9, TX9, 18, rfl, by decide, by decide, tb0 74 (by decide +kernel)⟩
theorem lkX_276 : FL "OwedToWinds" 276 9 13 := ⟨RX9, TX9, 18, rfl, by decide, by decide, tb0 80 (by decide +kernel)⟩
theorem lkX_279 : VL "OwedToWinds" 279 nZ_fittingWinds 0 := ⟨mlZ_fittingWinds, tb4 122 (by decide +kernel), imZ_fittingWinds, seZ_fittingWinds⟩
theorem lkX_282 : VL "OwedToWinds" 282 nZ_fittingForces 1 := ⟨mlZ_fittingForces, tb4 138 (by decide +kernel), imZ_fittingForces, seZ_fittingForces⟩
theorem lkX_285 : VL "OwedToWinds" 285 nZ_nextVane 0 := ⟨mlZ_nextVane, tb4 143 (by decide +kernel), imZ_nextVane, seZ_nextVane⟩
theorem lkX_291 : FL "OwedToWinds" 291 9 15 := ⟨RX9, TX9, 18, rfl, by decide, by decide, tb0 86 (by decide +kernel)⟩
theorem lkX_288 : FL "OwedToWinds" 288 9 14 := ⟨RX9, TX9, 18, rfl, by decide, by decide, tb0 83 (by decide +kernel)⟩
theorem lkX_297 : VL "OwedToWinds" 297 nZ_countRows 0 := ⟨mlZ_countRows, tb4 168 (by decide +kernel), imZ_countRows, seZ_countRows⟩
theorem lkX_294 : VL "OwedToWinds" 294 nZ_findSails 2 := ⟨mlZ_findSails, tb4 163 (by decide +kernel), imZ_findSails, seZ_findSails⟩
theorem lkX_300 : VL "OwedToWinds" 300 nZ_surePayment 1 := ⟨mlZ_surePayment, tb4 187 (by decide +kernel), imZ_surePayment, seZ_surePayment⟩
theorem lkX_306 : FL "OwedToWinds" 306 9 17 := ⟨RX9, TX9, 18, rfl, by decide, by decide, tb0 90 (by decide +kernel)⟩
theorem lkX_303 : FL "OwedToWinds" 303 9 16 := ⟨RX9, TX9, 18, rfl, by decide, by decide, tb0 88 (by decide +kernel)⟩
theorem lkX_315 : VL "OwedToWinds" 315 nC_piecesOf 3 := ⟨mlC_piecesOf, tb4 208 (by decide +kernel), imC_piecesOf, seC_piecesOf⟩
theorem lkX_312 : FL "OwedToWinds" 312 0 0 := ⟨RX0, TX0, 1, rfl, by decide, by decide, tb0 211 (by decide +kernel)⟩
theorem lkX_309 : VL "OwedToWinds" 309 nC_count 3 := ⟨mlC_count, tb4 204 (by decide +kernel), imC_count, seC_count⟩
theorem lkX_325 : FL "OwedToWinds" 325 2 5 := ⟨RX2, TX2, 10, rfl, by decide, by decide, tb1 59 (by decide +kernel)⟩
theorem lkX_322 : FL "OwedToWinds" 322 2 6 := ⟨RX2, TX2, 10, rfl, by decide, by decide, tb1 61 (by decide +kernel)⟩
theorem lkX_319 : VL "OwedToWinds" 319 nF_countCalms 1 := ⟨mlF_countCalms, tb4 216 (by decide +kernel), imF_countCalms, seF_countCalms⟩
theorem lkX_331 : VL "OwedToWinds" 331 nW_isHere 1 := ⟨mlW_isHere, tb4 225 (by decide +kernel), imW_isHere, seW_isHere⟩
theorem lkX_328 : FL "OwedToWinds" 328 9 4 := ⟨RX9, TX9, 18, rfl, by decide, by decide, tb0 51 (by decide +kernel)⟩
theorem lkX_334 : VL "OwedToWinds" 334 nW_copyFrom 1 := ⟨mlW_copyFrom, tb5 2 (by decide +kernel), imW_copyFrom, seW_copyFrom⟩
theorem lkM_1 : Cond.methodLink "OwedToWindsModel" 1 Lib.objectInit ∈ gtb := tb5 19 (by decide +kernel)
theorem lkM_7 : FL "OwedToWindsModel" 7 11 0 := ⟨RX11, TX11, 38, rfl, by decide, by decide, tb5 23 (by decide +kernel)⟩
theorem lkM_13 : FL "OwedToWindsModel" 13 11 1 := ⟨RX11, TX11, 38, rfl, by decide, by decide, tb5 24 (by decide +kernel)⟩
theorem lkM_16 : FL "OwedToWindsModel" 16 11 2 := ⟨RX11, TX11, 38, rfl, by decide, by decide, tb5 25 (by decide +kernel)⟩
theorem lkM_19 : FL "OwedToWindsModel" 19 11 3 := ⟨RX11, TX11, 38, rfl, by decide, by decide, tb5 26 (by decide +kernel)⟩
theorem lkM_22 : FL "OwedToWindsModel" 22 11 5 := ⟨RX11, TX11, 38, rfl, by decide, by decide, tb5 28 (by decide +kernel)⟩
theorem lkM_26 : FL "OwedToWindsModel" 26 11 6 := ⟨RX11, TX11, 38, rfl, by decide, by decide, tb5 29 (by decide +kernel)⟩
theorem lkM_29 : FL "OwedToWindsModel" 29 11 15 := ⟨RX11, TX11, 38, rfl, by decide, by decide, tb5 38 (by decide +kernel)⟩
theorem lkM_32 : FL "OwedToWindsModel" 32 11 21 := ⟨RX11, TX11, 38, rfl, by decide, by decide, tb5 44 (by decide +kernel)⟩
theorem lkM_35 : FL "OwedToWindsModel" 35 11 22 := ⟨RX11, TX11, 38, rfl, by decide, by decide, tb5 45 (by decide +kernel)⟩
theorem lkM_39 : FL "OwedToWindsModel" 39 11 23 := ⟨RX11, TX11, 38, rfl, by decide, by decide, tb5 46 (by decide +kernel)⟩
theorem lkM_43 : FL "OwedToWindsModel" 43 11 24 := ⟨RX11, TX11, 38, rfl, by decide, by decide, tb5 47 (by decide +kernel)⟩
theorem lkM_47 : FL "OwedToWindsModel" 47 11 29 := ⟨RX11, TX11, 38, rfl, by decide, by decide, tb5 52 (by decide +kernel)⟩
theorem lkM_50 : FL "OwedToWindsModel" 50 11 30 := ⟨RX11, TX11, 38, rfl, by decide, by decide, tb5 53 (by decide +kernel)⟩
theorem lkM_53 : FL "OwedToWindsModel" 53 11 31 := ⟨RX11, TX11, 38, rfl, by decide, by decide, tb5 54 (by decide +kernel)⟩
theorem lkM_56 : FL "OwedToWindsModel" 56 11 32 := ⟨RX11, TX11, 38, rfl, by decide, by decide, tb5 55 (by decide +kernel)⟩
theorem lkM_59 : FL "OwedToWindsModel" 59 11 33 := ⟨RX11, TX11, 38, rfl, by decide, by decide, tb5 56 (by decide +kernel)⟩
theorem lkM_62 : FL "OwedToWindsModel" 62 11 34 := ⟨RX11, TX11, 38, rfl, by decide, by decide, tb5 57 (by decide +kernel)⟩
theorem lkM_65 : FL "OwedToWindsModel" 65 11 36 := ⟨RX11, TX11, 38, rfl, by decide, by decide, tb5 59 (by decide +kernel)⟩
theorem lkM_68 : FL "OwedToWindsModel" 68 11 37 := ⟨RX11, TX11, 38, rfl, by decide, by decide, tb5 60 (by decide +kernel)⟩
theorem lkM_71 : SL "OwedToWindsModel" 71 nM_copy 2 := ⟨mlM_copy, tb5 20 (by decide +kernel), stM_copy⟩
theorem lkM_75 : SL "OwedToWindsModel" 75 nM_isIn 3 := ⟨mlM_isIn, tb5 143 (by decide +kernel), stM_isIn⟩
theorem lkM_83 : VL "OwedToWindsModel" 83 nM_get 2 := ⟨mlM_get, tb5 154 (by decide +kernel), imM_get, seM_get⟩
theorem lkM_79 : VL "OwedToWindsModel" 79 nM_isWind 1 := ⟨mlM_isWind, tb6 118 (by decide +kernel), imM_isWind, seM_isWind⟩
theorem lkM_91 : VL "OwedToWindsModel" 91 nM_begin 1 := ⟨mlM_begin, tb5 150 (by decide +kernel), imM_begin, seM_begin⟩
theorem lkM_87 : VL "OwedToWindsModel" 87 nM_put 3 := ⟨mlM_put, tb5 146 (by decide +kernel), imM_put, seM_put⟩
theorem lkM_95 : VL "OwedToWindsModel" 95 nM_lay 3 := ⟨mlM_lay, tb5 162 (by decide +kernel), imM_lay, seM_lay⟩
theorem lkM_98 : VL "OwedToWindsModel" 98 nM_isVillage 1 := ⟨mlM_isVillage, tb5 170 (by decide +kernel), imM_isVillage, seM_isVillage⟩
theorem lkM_101 : FL "OwedToWindsModel" 101 11 4 := ⟨RX11, TX11, 38, rfl, by decide, by decide, tb5 27 (by decide +kernel)⟩
theorem lkM_104 : VL "OwedToWindsModel" 104 nM_four 1 := ⟨mlM_four, tb5 178 (by decide +kernel), imM_four, seM_four⟩
theorem lkM_117 : FL "OwedToWindsModel" 117 11 9 := ⟨RX11, TX11, 38, rfl, by decide, by decide, tb5 32 (by decide +kernel)⟩
theorem lkM_107 : FL "OwedToWindsModel" 107 11 7 := ⟨RX11, TX11, 38, rfl, by decide, by decide, tb5 30 (by decide +kernel)⟩
theorem lkM_110 : VL "OwedToWindsModel" 110 nM_byteAt 1 := ⟨mlM_byteAt, tb5 198 (by decide +kernel), imM_byteAt, seM_byteAt⟩
theorem lkM_136 : SL "OwedToWindsModel" 136 nM_isSign 1 := ⟨mlM_isSign, tb5 210 (by decide +kernel), stM_isSign⟩
theorem lkM_130 : FL "OwedToWindsModel" 130 11 11 := ⟨RX11, TX11, 38, rfl, by decide, by decide, tb5 34 (by decide +kernel)⟩
theorem lkM_134 : Cond.constantLong "OwedToWindsModel" 134 1152921504606846976 ∈ gtb := tb5 209 (by decide +kernel)
theorem lkM_127 : SL "OwedToWindsModel" 127 nM_isLetterByte 1 := ⟨mlM_isLetterByte, tb5 206 (by decide +kernel), stM_isLetterByte⟩
theorem lkM_123 : FL "OwedToWindsModel" 123 11 10 := ⟨RX11, TX11, 38, rfl, by decide, by decide, tb5 33 (by decide +kernel)⟩
theorem lkM_126 : Cond.constant "OwedToWindsModel" 126 99999 ∈ gtb := tb5 205 (by decide +kernel)
theorem lkM_120 : SL "OwedToWindsModel" 120 nM_isFigure 1 := ⟨mlM_isFigure, tb5 202 (by decide +kernel), stM_isFigure⟩
theorem lkM_114 : FL "OwedToWindsModel" 114 11 8 := ⟨RX11, TX11, 38, rfl, by decide, by decide, tb5 31 (by decide +kernel)⟩
theorem lkM_139 : SL "OwedToWindsModel" 139 nM_w2 2 := ⟨mlM_w2, tb5 230 (by decide +kernel), stM_w2⟩
theorem lkM_143 : SL "OwedToWindsModel" 143 nM_w3 3 := ⟨mlM_w3, tb5 227 (by decide +kernel), stM_w3⟩
theorem lkM_147 : SL "OwedToWindsModel" 147 nM_w4 4 := ⟨mlM_w4, tb5 224 (by decide +kernel), stM_w4⟩
theorem lkM_151 : SL "OwedToWindsModel" 151 nM_w5 5 := ⟨mlM_w5, tb5 221 (by decide +kernel), stM_w5⟩
theorem lkM_155 : FL "OwedToWindsModel" 155 11 12 := ⟨RX11, TX11, 38, rfl, by decide, by decide, tb5 35 (by decide +kernel)⟩
theorem lkM_158 : FL "OwedToWindsModel" 158 11 13 := ⟨RX11, TX11, 38, rfl, by decide, by decide, tb5 36 (by decide +kernel)⟩
theorem lkM_165 : SL "OwedToWindsModel" 165 nM_w6 6 := ⟨mlM_w6, tb6 8 (by decide +kernel), stM_w6⟩
theorem lkM_161 : VL "OwedToWindsModel" 161 nM_isLong 2 := ⟨mlM_isLong, tb5 237 (by decide +kernel), imM_isLong, seM_isLong⟩
theorem lkM_169 : FL "OwedToWindsModel" 169 11 14 := ⟨RX11, TX11, 38, rfl, by decide, by decide, tb5 37 (by decide +kernel)⟩
theorem lkM_182 : FL "OwedToWindsModel" 182 11 17 := ⟨RX11, TX11, 38, rfl, by decide, by decide, tb5 40 (by decide +kernel)⟩
theorem lkM_172 : FL "OwedToWindsModel" 172 11 16 := ⟨RX11, TX11, 38, rfl, by decide, by decide, tb5 39 (by decide +kernel)⟩
theorem lkM_175 : SL "OwedToWindsModel" 175 nM_rank 1 := ⟨mlM_rank, tb6 51 (by decide +kernel), stM_rank⟩
theorem lkM_178 : VL "OwedToWindsModel" 178 nM_emit 2 := ⟨mlM_emit, tb6 62 (by decide +kernel), imM_emit, seM_emit⟩
theorem lkM_188 : VL "OwedToWindsModel" 188 nM_isOpen 0 := ⟨mlM_isOpen, tb6 43 (by decide +kernel), imM_isOpen, seM_isOpen⟩
theorem lkM_185 : FL "OwedToWindsModel" 185 11 19 := ⟨RX11, TX11, 38, rfl, by decide, by decide, tb5 42 (by decide +kernel)⟩
theorem lkM_192 : VL "OwedToWindsModel" 192 nM_nextToken 0 := ⟨mlM_nextToken, tb5 194 (by decide +kernel), imM_nextToken, seM_nextToken⟩
theorem lkM_205 : VL "OwedToWindsModel" 205 nM_opened 1 := ⟨mlM_opened, tb6 82 (by decide +kernel), imM_opened, seM_opened⟩
theorem lkM_212 : VL "OwedToWindsModel" 212 nM_isAskAhead 0 := ⟨mlM_isAskAhead, tb6 86 (by decide +kernel), imM_isAskAhead, seM_isAskAhead⟩
theorem lkM_208 : VL "OwedToWindsModel" 208 nM_isWord 1 := ⟨mlM_isWord, tb5 233 (by decide +kernel), imM_isWord, seM_isWord⟩
theorem lkM_202 : VL "OwedToWindsModel" 202 nM_endOne 0 := ⟨mlM_endOne, tb6 66 (by decide +kernel), imM_endOne, seM_endOne⟩
theorem lkM_199 : VL "OwedToWindsModel" 199 nM_isOf 1 := ⟨mlM_isOf, tb6 78 (by decide +kernel), imM_isOf, seM_isOf⟩
theorem lkM_195 : VL "OwedToWindsModel" 195 nM_nameOf 0 := ⟨mlM_nameOf, tb6 74 (by decide +kernel), imM_nameOf, seM_nameOf⟩
theorem lkM_218 : FL "OwedToWindsModel" 218 11 18 := ⟨RX11, TX11, 38, rfl, by decide, by decide, tb5 41 (by decide +kernel)⟩
theorem lkM_215 : VL "OwedToWindsModel" 215 nM_settle 1 := ⟨mlM_settle, tb6 58 (by decide +kernel), imM_settle, seM_settle⟩
theorem lkM_224 : VL "OwedToWindsModel" 224 nM_compareOf 0 := ⟨mlM_compareOf, tb6 54 (by decide +kernel), imM_compareOf, seM_compareOf⟩
theorem lkM_221 : VL "OwedToWindsModel" 221 nM_isCompared 0 := ⟨mlM_isCompared, tb6 47 (by decide +kernel), imM_isCompared, seM_isCompared⟩
theorem lkM_227 : VL "OwedToWindsModel" 227 nM_betweenOf 0 := ⟨mlM_betweenOf, tb6 39 (by decide +kernel), imM_betweenOf, seM_betweenOf⟩
theorem lkM_233 : VL "OwedToWindsModel" 233 nM_beginOne 0 := ⟨mlM_beginOne, tb6 70 (by decide +kernel), imM_beginOne, seM_beginOne⟩
theorem lkM_230 : VL "OwedToWindsModel" 230 nM_behindOne 0 := ⟨mlM_behindOne, tb6 35 (by decide +kernel), imM_behindOne, seM_behindOne⟩
theorem lkM_236 : VL "OwedToWindsModel" 236 nM_figure 3 := ⟨mlM_figure, tb6 15 (by decide +kernel), imM_figure, seM_figure⟩
theorem lkM_240 : VL "OwedToWindsModel" 240 nM_parsed 1 := ⟨mlM_parsed, tb6 31 (by decide +kernel), imM_parsed, seM_parsed⟩
theorem lkM_244 : VL "OwedToWindsModel" 244 nM_worded 4 := ⟨mlM_worded, tb6 19 (by decide +kernel), imM_worded, seM_worded⟩
theorem lkM_256 : VL "OwedToWindsModel" 256 nM_lawClause 2 := ⟨mlM_lawClause, tb6 27 (by decide +kernel), imM_lawClause, seM_lawClause⟩
theorem lkM_252 : VL "OwedToWindsModel" 252 nM_two0 4 := ⟨mlM_two0, tb6 23 (by decide +kernel), imM_two0, seM_two0⟩
theorem lkM_248 : VL "OwedToWindsModel" 248 nM_three 7 := ⟨mlM_three, tb6 11 (by decide +kernel), imM_three, seM_three⟩
theorem lkM_270 : VL "OwedToWindsModel" 270 nM_body 2 := ⟨mlM_body, tb6 4 (by decide +kernel), imM_body, seM_body⟩
theorem lkM_263 : FL "OwedToWindsModel" 263 11 20 := ⟨RX11, TX11, 38, rfl, by decide, by decide, tb5 43 (by decide +kernel)⟩
theorem lkM_266 : SL "OwedToWindsModel" 266 nM_has 2 := ⟨mlM_has, tb6 1 (by decide +kernel), stM_has⟩
theorem lkM_260 : VL "OwedToWindsModel" 260 nM_sortOf 0 := ⟨mlM_sortOf, tb5 217 (by decide +kernel), imM_sortOf, seM_sortOf⟩
theorem lkM_273 : VL "OwedToWindsModel" 273 nM_clause 0 := ⟨mlM_clause, tb5 213 (by decide +kernel), imM_clause, seM_clause⟩
theorem lkM_276 : VL "OwedToWindsModel" 276 nM_readText 0 := ⟨mlM_readText, tb5 190 (by decide +kernel), imM_readText, seM_readText⟩
theorem lkM_281 : Cond.constantLong "OwedToWindsModel" 281 (-1000000) ∈ gtb := tb6 190 (by decide +kernel)
theorem lkM_279 : Cond.constantLong "OwedToWindsModel" 279 1000000 ∈ gtb := tb6 189 (by decide +kernel)
theorem lkM_283 : SL "OwedToWindsModel" 283 nM_clip 1 := ⟨mlM_clip, tb6 186 (by decide +kernel), stM_clip⟩
theorem lkM_287 : Cond.constantLong "OwedToWindsModel" 287 2 ∈ gtb := tb6 180 (by decide +kernel)
theorem lkM_310 : SL "OwedToWindsModel" 310 nM_joined 3 := ⟨mlM_joined, tb6 194 (by decide +kernel), stM_joined⟩
theorem lkM_306 : SL "OwedToWindsModel" 306 nM_isAsked 3 := ⟨mlM_isAsked, tb6 191 (by decide +kernel), stM_isAsked⟩
theorem lkM_302 : SL "OwedToWindsModel" 302 nM_two 3 := ⟨mlM_two, tb6 183 (by decide +kernel), stM_two⟩
theorem lkM_296 : Cond.constant "OwedToWindsModel" 296 (-1000000) ∈ gtb := tb6 181 (by decide +kernel)
theorem lkM_297 : Cond.constant "OwedToWindsModel" 297 1000000 ∈ gtb := tb6 182 (by decide +kernel)
theorem lkM_298 : SL "OwedToWindsModel" 298 nM_cut 3 := ⟨mlM_cut, tb6 138 (by decide +kernel), stM_cut⟩
theorem lkM_292 : SL "OwedToWindsModel" 292 nM_rounded 2 := ⟨mlM_rounded, tb6 177 (by decide +kernel), stM_rounded⟩
theorem lkM_289 : VL "OwedToWindsModel" 289 nM_debtOf 1 := ⟨mlM_debtOf, tb6 173 (by decide +kernel), imM_debtOf, seM_debtOf⟩
theorem lkM_317 : VL "OwedToWindsModel" 317 nM_work 1 := ⟨mlM_work, tb6 169 (by decide +kernel), imM_work, seM_work⟩
theorem lkM_314 : VL "OwedToWindsModel" 314 nM_clauseOf 1 := ⟨mlM_clauseOf, tb6 165 (by decide +kernel), imM_clauseOf, seM_clauseOf⟩
theorem lkM_320 : VL "OwedToWindsModel" 320 nM_name 3 := ⟨mlM_name, tb6 157 (by decide +kernel), imM_name, seM_name⟩
theorem lkM_323 : VL "OwedToWindsModel" 323 nM_says 3 := ⟨mlM_says, tb6 161 (by decide +kernel), imM_says, seM_says⟩
theorem lkM_326 : VL "OwedToWindsModel" 326 nM_blowsOf 3 := ⟨mlM_blowsOf, tb6 224 (by decide +kernel), imM_blowsOf, seM_blowsOf⟩
theorem lkM_329 : VL "OwedToWindsModel" 329 nM_of 2 := ⟨mlM_of, tb6 102 (by decide +kernel), imM_of, seM_of⟩
theorem lkM_332 : VL "OwedToWindsModel" 332 nM_nameVillage 3 := ⟨mlM_nameVillage, tb6 236 (by decide +kernel), imM_nameVillage, seM_nameVillage⟩
theorem lkM_335 : Cond.constantLong "OwedToWindsModel" 335 353 ∈ gtb := tb6 213 (by decide +kernel)
theorem lkM_337 : Cond.constantLong "OwedToWindsModel" 337 233 ∈ gtb := tb6 214 (by decide +kernel)
theorem lkM_339 : Cond.constantLong "OwedToWindsModel" 339 30427 ∈ gtb := tb6 215 (by decide +kernel)
theorem lkM_344 : VL "OwedToWindsModel" 344 nM_anew 0 := ⟨mlM_anew, tb6 209 (by decide +kernel), imM_anew, seM_anew⟩
theorem lkM_341 : VL "OwedToWindsModel" 341 nM_weights 0 := ⟨mlM_weights, tb6 205 (by decide +kernel), imM_weights, seM_weights⟩
theorem lkM_353 : FL "OwedToWindsModel" 353 11 26 := ⟨RX11, TX11, 38, rfl, by decide, by decide, tb5 49 (by decide +kernel)⟩
theorem lkM_350 : FL "OwedToWindsModel" 350 11 25 := ⟨RX11, TX11, 38, rfl, by decide, by decide, tb5 48 (by decide +kernel)⟩
theorem lkM_359 : VL "OwedToWindsModel" 359 nM_blowsNow 1 := ⟨mlM_blowsNow, tb6 220 (by decide +kernel), imM_blowsNow, seM_blowsNow⟩
theorem lkM_356 : VL "OwedToWindsModel" 356 nM_isComing 1 := ⟨mlM_isComing, tb6 216 (by decide +kernel), imM_isComing, seM_isComing⟩
theorem lkM_347 : VL "OwedToWindsModel" 347 nM_drawn 0 := ⟨mlM_drawn, tb6 201 (by decide +kernel), imM_drawn, seM_drawn⟩
theorem lkM_368 : VL "OwedToWindsModel" 368 nM_catchOf 3 := ⟨mlM_catchOf, tb7 0 (by decide +kernel), imM_catchOf, seM_catchOf⟩
theorem lkM_365 : FL "OwedToWindsModel" 365 11 27 := ⟨RX11, TX11, 38, rfl, by decide, by decide, tb5 50 (by decide +kernel)⟩
theorem lkM_362 : VL "OwedToWindsModel" 362 nM_takesOf 3 := ⟨mlM_takesOf, tb6 232 (by decide +kernel), imM_takesOf, seM_takesOf⟩
theorem lkM_380 : VL "OwedToWindsModel" 380 nM_write 0 := ⟨mlM_write, tb7 4 (by decide +kernel), imM_write, seM_write⟩
theorem lkM_377 : VL "OwedToWindsModel" 377 nM_takeFrom 1 := ⟨mlM_takeFrom, tb6 228 (by decide +kernel), imM_takeFrom, seM_takeFrom⟩
theorem lkM_374 : VL "OwedToWindsModel" 374 nM_blow 0 := ⟨mlM_blow, tb6 197 (by decide +kernel), imM_blow, seM_blow⟩
theorem lkM_371 : VL "OwedToWindsModel" 371 nM_duesOf 1 := ⟨mlM_duesOf, tb6 153 (by decide +kernel), imM_duesOf, seM_duesOf⟩
theorem lkM_383 : VL "OwedToWindsModel" 383 nM_isHere 1 := ⟨mlM_isHere, tb6 114 (by decide +kernel), imM_isHere, seM_isHere⟩
theorem lkM_392 : VL "OwedToWindsModel" 392 nM_payNow 3 := ⟨mlM_payNow, tb6 126 (by decide +kernel), imM_payNow, seM_payNow⟩
theorem lkM_389 : VL "OwedToWindsModel" 389 nM_keep 0 := ⟨mlM_keep, tb6 122 (by decide +kernel), imM_keep, seM_keep⟩
theorem lkM_386 : VL "OwedToWindsModel" 386 nM_canPay 3 := ⟨mlM_canPay, tb6 110 (by decide +kernel), imM_canPay, seM_canPay⟩
theorem lkM_395 : VL "OwedToWindsModel" 395 nM_mergeNow 2 := ⟨mlM_mergeNow, tb6 134 (by decide +kernel), imM_mergeNow, seM_mergeNow⟩
theorem lkM_398 : FL "OwedToWindsModel" 398 11 28 := ⟨RX11, TX11, 38, rfl, by decide, by decide, tb5 51 (by decide +kernel)⟩
theorem lkM_401 : VL "OwedToWindsModel" 401 nM_pass 0 := ⟨mlM_pass, tb6 149 (by decide +kernel), imM_pass, seM_pass⟩
theorem lkM_404 : VL "OwedToWindsModel" 404 nM_arePassed 1 := ⟨mlM_arePassed, tb6 145 (by decide +kernel), imM_arePassed, seM_arePassed⟩
theorem lkM_419 : VL "OwedToWindsModel" 419 nM_merge 2 := ⟨mlM_merge, tb7 20 (by decide +kernel), imM_merge, seM_merge⟩
theorem lkM_416 : VL "OwedToWindsModel" 416 nM_pay 3 := ⟨mlM_pay, tb7 19 (by decide +kernel), imM_pay, seM_pay⟩
theorem lkM_413 : VL "OwedToWindsModel" 413 nM_way 3 := ⟨mlM_way, tb7 18 (by decide +kernel), imM_way, seM_way⟩
theorem lkM_410 : VL "OwedToWindsModel" 410 nM_village 2 := ⟨mlM_village, tb7 17 (by decide +kernel), imM_village, seM_village⟩
theorem lkM_407 : VL "OwedToWindsModel" 407 nM_wind 3 := ⟨mlM_wind, tb7 16 (by decide +kernel), imM_wind, seM_wind⟩
theorem lkM_422 : VL "OwedToWindsModel" 422 nM_isPlayed 1 := ⟨mlM_isPlayed, tb7 12 (by decide +kernel), imM_isPlayed, seM_isPlayed⟩
theorem lkM_425 : VL "OwedToWindsModel" 425 nM_happens 1 := ⟨mlM_happens, tb7 25 (by decide +kernel), imM_happens, seM_happens⟩
theorem lkM_428 : VL "OwedToWindsModel" 428 nM_shown 0 := ⟨mlM_shown, tb7 53 (by decide +kernel), imM_shown, seM_shown⟩
theorem lkM_431 : VL "OwedToWindsModel" 431 nM_entry 2 := ⟨mlM_entry, tb7 57 (by decide +kernel), imM_entry, seM_entry⟩
theorem lkM_440 : VL "OwedToWindsModel" 440 nM_putBack 0 := ⟨mlM_putBack, tb7 97 (by decide +kernel), imM_putBack, seM_putBack⟩
theorem lkM_437 : VL "OwedToWindsModel" 437 nM_goOn 0 := ⟨mlM_goOn, tb7 93 (by decide +kernel), imM_goOn, seM_goOn⟩
theorem lkM_434 : VL "OwedToWindsModel" 434 nM_setAside 0 := ⟨mlM_setAside, tb7 89 (by decide +kernel), imM_setAside, seM_setAside⟩
theorem lkM_443 : VL "OwedToWindsModel" 443 nM_behind 2 := ⟨mlM_behind, tb7 85 (by decide +kernel), imM_behind, seM_behind⟩
theorem lkM_446 : VL "OwedToWindsModel" 446 nM_takenIn 1 := ⟨mlM_takenIn, tb7 81 (by decide +kernel), imM_takenIn, seM_takenIn⟩
theorem lkM_449 : VL "OwedToWindsModel" 449 nM_isInArrears 0 := ⟨mlM_isInArrears, tb7 113 (by decide +kernel), imM_isInArrears, seM_isInArrears⟩
theorem lkM_452 : Cond.constant "OwedToWindsModel" 452 1000000000 ∈ gtb := tb7 125 (by decide +kernel)
theorem lkM_453 : SL "OwedToWindsModel" 453 nM_common 2 := ⟨mlM_common, tb7 138 (by decide +kernel), stM_common⟩
theorem lkM_458 : SL "OwedToWindsModel" 458 nM_part 3 := ⟨mlM_part, tb7 135 (by decide +kernel), stM_part⟩
theorem lkM_456 : Cond.constantLong "OwedToWindsModel" 456 (-1) ∈ gtb := tb7 134 (by decide +kernel)
theorem lkM_462 : VL "OwedToWindsModel" 462 nM_owedBy 2 := ⟨mlM_owedBy, tb7 145 (by decide +kernel), imM_owedBy, seM_owedBy⟩
theorem lkM_465 : VL "OwedToWindsModel" 465 nM_takenBy 2 := ⟨mlM_takenBy, tb7 149 (by decide +kernel), imM_takenBy, seM_takenBy⟩
theorem lkM_474 : VL "OwedToWindsModel" 474 nM_nextRow 1 := ⟨mlM_nextRow, tb7 164 (by decide +kernel), imM_nextRow, seM_nextRow⟩
theorem lkM_471 : VL "OwedToWindsModel" 471 nM_added 2 := ⟨mlM_added, tb7 160 (by decide +kernel), imM_added, seM_added⟩
theorem lkM_468 : SL "OwedToWindsModel" 468 nM_bits 1 := ⟨mlM_bits, tb7 157 (by decide +kernel), stM_bits⟩
theorem lkM_477 : FL "OwedToWindsModel" 477 11 35 := ⟨RX11, TX11, 38, rfl, by decide, by decide, tb5 58 (by decide +kernel)⟩
theorem lkM_480 : VL "OwedToWindsModel" 480 nM_reached 2 := ⟨mlM_reached, tb7 180 (by decide +kernel), imM_reached, seM_reached⟩
theorem lkM_486 : VL "OwedToWindsModel" 486 nM_arrival 2 := ⟨mlM_arrival, tb7 176 (by decide +kernel), imM_arrival, seM_arrival⟩
theorem lkM_483 : VL "OwedToWindsModel" 483 nM_laySpeeds 0 := ⟨mlM_laySpeeds, tb7 172 (by decide +kernel), imM_laySpeeds, seM_laySpeeds⟩
theorem lkM_489 : VL "OwedToWindsModel" 489 nM_isFitting 2 := ⟨mlM_isFitting, tb7 196 (by decide +kernel), imM_isFitting, seM_isFitting⟩
theorem lkM_492 : VL "OwedToWindsModel" 492 nM_strengthsOf 1 := ⟨mlM_strengthsOf, tb7 192 (by decide +kernel), imM_strengthsOf, seM_strengthsOf⟩
theorem lkM_498 : VL "OwedToWindsModel" 498 nM_answers 1 := ⟨mlM_answers, tb7 212 (by decide +kernel), imM_answers, seM_answers⟩
theorem lkM_495 : VL "OwedToWindsModel" 495 nM_isRead 1 := ⟨mlM_isRead, tb7 208 (by decide +kernel), imM_isRead, seM_isRead⟩
theorem lkM_501 : SL "OwedToWindsModel" 501 nM_paymentOf 2 := ⟨mlM_paymentOf, tb7 232 (by decide +kernel), stM_paymentOf⟩
theorem lkM_507 : VL "OwedToWindsModel" 507 nM_isTorn 3 := ⟨mlM_isTorn, tb7 228 (by decide +kernel), imM_isTorn, seM_isTorn⟩
theorem lkM_504 : VL "OwedToWindsModel" 504 nM_canTear 2 := ⟨mlM_canTear, tb7 224 (by decide +kernel), imM_canTear, seM_canTear⟩
theorem lkM_510 : VL "OwedToWindsModel" 510 nM_layPieces 1 := ⟨mlM_layPieces, tb8 7 (by decide +kernel), imM_layPieces, seM_layPieces⟩
theorem lkC_3 : Cond.methodLink "OwedToWinds$Coins" 3 Lib.objectInit ∈ gtb := tb0 209 (by decide +kernel)
theorem lkC_9 : FL "OwedToWinds$Coins" 9 0 0 := ⟨RX0, TX0, 1, rfl, by decide, by decide, tb0 210 (by decide +kernel)⟩
theorem lkD_3 : Cond.methodLink "OwedToWinds$Days" 3 Lib.objectInit ∈ gtb := tb1 26 (by decide +kernel)
theorem lkD_9 : FL "OwedToWinds$Days" 9 1 2 := ⟨RX1, TX1, 5, rfl, by decide, by decide, tb1 29 (by decide +kernel)⟩
theorem lkD_15 : FL "OwedToWinds$Days" 15 1 3 := ⟨RX1, TX1, 5, rfl, by decide, by decide, tb1 30 (by decide +kernel)⟩
theorem lkD_18 : FL "OwedToWinds$Days" 18 1 4 := ⟨RX1, TX1, 5, rfl, by decide, by decide, tb1 31 (by decide +kernel)⟩
theorem lkD_21 : FL "OwedToWinds$Days" 21 1 0 := ⟨RX1, TX1, 5, rfl, by decide, by decide, tb1 27 (by decide +kernel)⟩
theorem lkD_25 : FL "OwedToWinds$Days" 25 1 1 := ⟨RX1, TX1, 5, rfl, by decide, by decide, tb1 28 (by decide +kernel)⟩
theorem lkD_35 : SL "OwedToWinds$Days" 35 nJ_max 2 := ⟨mlJ_max, tb2 231 (by decide +kernel), stJ_max⟩
theorem lkD_29 : FL "OwedToWinds$Days" 29 9 5 := ⟨RX9, TX9, 18, rfl, by decide, by decide, tb0 53 (by decide +kernel)⟩
theorem lkD_80 : VL "OwedToWinds$Days" 80 nW_writePage 3 := ⟨mlW_writePage, tb3 92 (by decide +kernel), imW_writePage, seW_writePage⟩
theorem lkD_57 : SL "OwedToWinds$Days" 57 nJ_min 2 := ⟨mlJ_min, tb2 230 (by decide +kernel), stJ_min⟩
theorem lkD_77 : VL "OwedToWinds$Days" 77 nL_catchOf 3 := ⟨mlL_catchOf, tb3 88 (by decide +kernel), imL_catchOf, seL_catchOf⟩
theorem lkD_70 : FL "OwedToWinds$Days" 70 9 6 := ⟨RX9, TX9, 18, rfl, by decide, by decide, tb0 58 (by decide +kernel)⟩
theorem lkD_73 : VL "OwedToWinds$Days" 73 nL_takesOf 3 := ⟨mlL_takesOf, tb3 84 (by decide +kernel), imL_takesOf, seL_takesOf⟩
theorem lkD_67 : VL "OwedToWinds$Days" 67 nL_blowsOf 1 := ⟨mlL_blowsOf, tb3 80 (by decide +kernel), imL_blowsOf, seL_blowsOf⟩
theorem lkD_64 : VL "OwedToWinds$Days" 64 nL_comesOf 1 := ⟨mlL_comesOf, tb3 76 (by decide +kernel), imL_comesOf, seL_comesOf⟩
theorem lkD_60 : VL "OwedToWinds$Days" 60 nD_drawnWind 0 := ⟨mlD_drawnWind, tb3 58 (by decide +kernel), imD_drawnWind, seD_drawnWind⟩
theorem lkD_51 : VL "OwedToWinds$Days" 51 nL_duesOf 1 := ⟨mlL_duesOf, tb3 7 (by decide +kernel), imL_duesOf, seL_duesOf⟩
theorem lkD_44 : FL "OwedToWinds$Days" 44 9 4 := ⟨RX9, TX9, 18, rfl, by decide, by decide, tb0 48 (by decide +kernel)⟩
theorem lkD_47 : VL "OwedToWinds$Days" 47 nW_isHere 1 := ⟨mlW_isHere, tb2 195 (by decide +kernel), imW_isHere, seW_isHere⟩
theorem lkD_41 : FL "OwedToWinds$Days" 41 9 0 := ⟨RX9, TX9, 18, rfl, by decide, by decide, tb0 40 (by decide +kernel)⟩
theorem lkD_90 : VL "OwedToWinds$Days" 90 nW_weightOf 1 := ⟨mlW_weightOf, tb3 75 (by decide +kernel), imW_weightOf, seW_weightOf⟩
theorem lkD_87 : VL "OwedToWinds$Days" 87 nD_drawX 0 := ⟨mlD_drawX, tb3 71 (by decide +kernel), imD_drawX, seD_drawX⟩
theorem lkD_84 : VL "OwedToWinds$Days" 84 nW_weightOfAll 0 := ⟨mlW_weightOfAll, tb3 62 (by decide +kernel), imW_weightOfAll, seW_weightOfAll⟩
theorem lkD_100 : VL "OwedToWinds$Days" 100 nD_payNow 3 := ⟨mlD_payNow, tb2 210 (by decide +kernel), imD_payNow, seD_payNow⟩
theorem lkD_97 : VL "OwedToWinds$Days" 97 nW_keepStep 0 := ⟨mlW_keepStep, tb2 199 (by decide +kernel), imW_keepStep, seW_keepStep⟩
theorem lkD_93 : VL "OwedToWinds$Days" 93 nD_canPay 3 := ⟨mlD_canPay, tb2 190 (by decide +kernel), imD_canPay, seD_canPay⟩
theorem lkD_103 : VL "OwedToWinds$Days" 103 nW_isVillage 1 := ⟨mlW_isVillage, tb2 194 (by decide +kernel), imW_isVillage, seW_isVillage⟩
theorem lkD_110 : VL "OwedToWinds$Days" 110 nD_mergeNow 2 := ⟨mlD_mergeNow, tb2 226 (by decide +kernel), imD_mergeNow, seD_mergeNow⟩
theorem lkD_106 : VL "OwedToWinds$Days" 106 nD_canMerge 2 := ⟨mlD_canMerge, tb2 222 (by decide +kernel), imD_canMerge, seD_canMerge⟩
theorem lkD_124 : VL "OwedToWinds$Days" 124 nD_pass 0 := ⟨mlD_pass, tb3 114 (by decide +kernel), imD_pass, seD_pass⟩
theorem lkD_121 : VL "OwedToWinds$Days" 121 nW_daysLeft 0 := ⟨mlW_daysLeft, tb3 113 (by decide +kernel), imW_daysLeft, seW_daysLeft⟩
theorem lkD_118 : VL "OwedToWinds$Days" 118 nD_mergeByChance 1 := ⟨mlD_mergeByChance, tb3 127 (by decide +kernel), imD_mergeByChance, seD_mergeByChance⟩
theorem lkD_114 : VL "OwedToWinds$Days" 114 nD_payByChance 1 := ⟨mlD_payByChance, tb3 123 (by decide +kernel), imD_payByChance, seD_payByChance⟩
theorem lkD_135 : VL "OwedToWinds$Days" 135 nD_perform 4 := ⟨mlD_perform, tb3 104 (by decide +kernel), imD_perform, seD_perform⟩
theorem lkD_132 : FL "OwedToWinds$Days" 132 7 4 := ⟨RX7, TX7, 6, rfl, by decide, by decide, tb0 228 (by decide +kernel)⟩
theorem lkD_127 : FL "OwedToWinds$Days" 127 7 5 := ⟨RX7, TX7, 6, rfl, by decide, by decide, tb0 231 (by decide +kernel)⟩
theorem lkD_151 : VL "OwedToWinds$Days" 151 nD_mergeByHand 2 := ⟨mlD_mergeByHand, tb3 112 (by decide +kernel), imD_mergeByHand, seD_mergeByHand⟩
theorem lkD_148 : VL "OwedToWinds$Days" 148 nD_payByHand 3 := ⟨mlD_payByHand, tb3 111 (by decide +kernel), imD_payByHand, seD_payByHand⟩
theorem lkD_145 : VL "OwedToWinds$Days" 145 nW_tellWay 3 := ⟨mlW_tellWay, tb3 110 (by decide +kernel), imW_tellWay, seW_tellWay⟩
theorem lkD_142 : VL "OwedToWinds$Days" 142 nW_tellVillage 2 := ⟨mlW_tellVillage, tb3 109 (by decide +kernel), imW_tellVillage, seW_tellVillage⟩
theorem lkD_139 : VL "OwedToWinds$Days" 139 nW_tellWind 3 := ⟨mlW_tellWind, tb3 108 (by decide +kernel), imW_tellWind, seW_tellWind⟩
theorem lkF_3 : Cond.methodLink "OwedToWinds$Foresight" 3 Lib.objectInit ∈ gtb := tb1 50 (by decide +kernel)
theorem lkF_11 : FL "OwedToWinds$Foresight" 11 2 2 := ⟨RX2, TX2, 10, rfl, by decide, by decide, tb1 53 (by decide +kernel)⟩
theorem lkF_17 : FL "OwedToWinds$Foresight" 17 2 3 := ⟨RX2, TX2, 10, rfl, by decide, by decide, tb1 54 (by decide +kernel)⟩
theorem lkF_21 : FL "OwedToWinds$Foresight" 21 2 4 := ⟨RX2, TX2, 10, rfl, by decide, by decide, tb1 56 (by decide +kernel)⟩
theorem lkF_24 : FL "OwedToWinds$Foresight" 24 2 5 := ⟨RX2, TX2, 10, rfl, by decide, by decide, tb1 58 (by decide +kernel)⟩
theorem lkF_27 : FL "OwedToWinds$Foresight" 27 2 6 := ⟨RX2, TX2, 10, rfl, by decide, by decide, tb1 60 (by decide +kernel)⟩
theorem lkF_30 : FL "OwedToWinds$Foresight" 30 2 7 := ⟨RX2, TX2, 10, rfl, by decide, by decide, tb1 62 (by decide +kernel)⟩
theorem lkF_33 : FL "OwedToWinds$Foresight" 33 2 8 := ⟨RX2, TX2, 10, rfl, by decide, by decide, tb1 63 (by decide +kernel)⟩
theorem lkF_36 : FL "OwedToWinds$Foresight" 36 2 9 := ⟨RX2, TX2, 10, rfl, by decide, by decide, tb1 64 (by decide +kernel)⟩
theorem lkF_39 : FL "OwedToWinds$Foresight" 39 2 0 := ⟨RX2, TX2, 10, rfl, by decide, by decide, tb1 51 (by decide +kernel)⟩
theorem lkF_43 : FL "OwedToWinds$Foresight" 43 2 1 := ⟨RX2, TX2, 10, rfl, by decide, by decide, tb1 52 (by decide +kernel)⟩
theorem lkF_47 : FL "OwedToWinds$Foresight" 47 9 0 := ⟨RX9, TX9, 18, rfl, by decide, by decide, tb0 38 (by decide +kernel)⟩
theorem lkF_50 : SLn "OwedToWinds$Foresight" 50 nW_copyRow 2 := ⟨mlW_copyRow, ⟨"OwedToWinds", tb3 199 (by decide +kernel)⟩, stW_copyRow⟩
theorem lkF_58 : SL "OwedToWinds$Foresight" 58 nJ_min 2 := ⟨mlJ_min, tb3 210 (by decide +kernel), stJ_min⟩
theorem lkF_54 : VL "OwedToWinds$Foresight" 54 nW_daysLeft 0 := ⟨mlW_daysLeft, tb3 209 (by decide +kernel), imW_daysLeft, seW_daysLeft⟩
theorem lkF_73 : FL "OwedToWinds$Foresight" 73 1 4 := ⟨RX1, TX1, 5, rfl, by decide, by decide, tb1 32 (by decide +kernel)⟩
theorem lkF_68 : VL "OwedToWinds$Foresight" 68 nD_pass 0 := ⟨mlD_pass, tb3 211 (by decide +kernel), imD_pass, seD_pass⟩
theorem lkF_64 : VL "OwedToWinds$Foresight" 64 nF_canPass 1 := ⟨mlF_canPass, tb3 205 (by decide +kernel), imF_canPass, seF_canPass⟩
theorem lkF_83 : VL "OwedToWinds$Foresight" 83 nF_giveBack 0 := ⟨mlF_giveBack, tb3 212 (by decide +kernel), imF_giveBack, seF_giveBack⟩
theorem lkF_79 : Cond.constant "OwedToWinds$Foresight" 79 1000000 ∈ gtb := tb3 200 (by decide +kernel)
theorem lkF_80 : VL "OwedToWinds$Foresight" 80 nF_takenUpTo 2 := ⟨mlF_takenUpTo, tb3 201 (by decide +kernel), imF_takenUpTo, seF_takenUpTo⟩
theorem lkF_76 : VL "OwedToWinds$Foresight" 76 nF_keepNow 0 := ⟨mlF_keepNow, tb3 195 (by decide +kernel), imF_keepNow, seF_keepNow⟩
theorem lkF_90 : VL "OwedToWinds$Foresight" 90 nF_isAnyOwed 0 := ⟨mlF_isAnyOwed, tb4 0 (by decide +kernel), imF_isAnyOwed, seF_isAnyOwed⟩
theorem lkF_86 : VL "OwedToWinds$Foresight" 86 nD_wasCalm 0 := ⟨mlD_wasCalm, tb3 236 (by decide +kernel), imD_wasCalm, seD_wasCalm⟩
theorem lkF_93 : FL "OwedToWinds$Foresight" 93 9 4 := ⟨RX9, TX9, 18, rfl, by decide, by decide, tb0 50 (by decide +kernel)⟩
theorem lkF_96 : VL "OwedToWinds$Foresight" 96 nF_isOwed 1 := ⟨mlF_isOwed, tb4 4 (by decide +kernel), imF_isOwed, seF_isOwed⟩
theorem lkF_100 : VL "OwedToWinds$Foresight" 100 nW_isHere 1 := ⟨mlW_isHere, tb4 8 (by decide +kernel), imW_isHere, seW_isHere⟩
theorem lkF_103 : FL "OwedToWinds$Foresight" 103 9 10 := ⟨RX9, TX9, 18, rfl, by decide, by decide, tb0 71 (by decide +kernel)⟩
theorem lkF_106 : FL "OwedToWinds$Foresight" 106 9 9 := ⟨RX9, TX9, 18, rfl, by decide, by decide, tb0 67 (by decide +kernel)⟩
theorem lkF_112 : VL "OwedToWinds$Foresight" 112 nF_payOff 1 := ⟨mlF_payOff, tb4 52 (by decide +kernel), imF_payOff, seF_payOff⟩
theorem lkF_109 : VL "OwedToWinds$Foresight" 109 nF_penceFor 1 := ⟨mlF_penceFor, tb4 48 (by decide +kernel), imF_penceFor, seF_penceFor⟩
theorem lkF_116 : SL "OwedToWinds$Foresight" 116 nJ_max 2 := ⟨mlJ_max, tb4 220 (by decide +kernel), stJ_max⟩
theorem lkF_122 : FL "OwedToWinds$Foresight" 122 9 6 := ⟨RX9, TX9, 18, rfl, by decide, by decide, tb0 59 (by decide +kernel)⟩
theorem lkF_125 : VL "OwedToWinds$Foresight" 125 nF_arrival 2 := ⟨mlF_arrival, tb4 98 (by decide +kernel), imF_arrival, seF_arrival⟩
theorem lkF_119 : VL "OwedToWinds$Foresight" 119 nF_foreseeSpeeds 0 := ⟨mlF_foreseeSpeeds, tb4 90 (by decide +kernel), imF_foreseeSpeeds, seF_foreseeSpeeds⟩
theorem lkF_128 : VL "OwedToWinds$Foresight" 128 nD_speed 0 := ⟨mlD_speed, tb4 94 (by decide +kernel), imD_speed, seD_speed⟩
theorem lkF_131 : VL "OwedToWinds$Foresight" 131 nW_lengthOf 2 := ⟨mlW_lengthOf, tb4 102 (by decide +kernel), imW_lengthOf, seW_lengthOf⟩
theorem lkQ_3 : Cond.methodLink "OwedToWinds$Fraction" 3 Lib.objectInit ∈ gtb := tb0 194 (by decide +kernel)
theorem lkQ_9 : FL "OwedToWinds$Fraction" 9 3 0 := ⟨RX3, TX3, 2, rfl, by decide, by decide, tb0 195 (by decide +kernel)⟩
theorem lkQ_15 : FL "OwedToWinds$Fraction" 15 3 1 := ⟨RX3, TX3, 2, rfl, by decide, by decide, tb0 197 (by decide +kernel)⟩
theorem lkQ_28 : VL "OwedToWinds$Fraction" 28 nQ_set 2 := ⟨mlQ_set, tb4 36 (by decide +kernel), imQ_set, seQ_set⟩
theorem lkQ_24 : VL "OwedToWinds$Fraction" 24 nW_weightOf 1 := ⟨mlW_weightOf, tb4 35 (by decide +kernel), imW_weightOf, seW_weightOf⟩
theorem lkQ_18 : VL "OwedToWinds$Fraction" 18 nW_weightOfAll 0 := ⟨mlW_weightOfAll, tb4 34 (by decide +kernel), imW_weightOfAll, seW_weightOfAll⟩
theorem lkQ_37 : Cond.fieldLink "OwedToWinds$Fraction" 37 "OwedToWinds$Fraction" "ORDERS" "[I" ∈ gtb := tb4 76 (by decide +kernel)
theorem lkQ_45 : SL "OwedToWinds$Fraction" 45 nJ_max 2 := ⟨mlJ_max, tb4 81 (by decide +kernel), stJ_max⟩
theorem lkQ_41 : SL "OwedToWinds$Fraction" 41 nQ_mostOf 2 := ⟨mlQ_mostOf, tb4 78 (by decide +kernel), stQ_mostOf⟩
theorem lkQ_32 : SL "OwedToWinds$Fraction" 32 nJ_bitCount 1 := ⟨mlJ_bitCount, tb4 75 (by decide +kernel), stJ_bitCount⟩
theorem lkL_3 : Cond.methodLink "OwedToWinds$Laws" 3 Lib.objectInit ∈ gtb := tb1 10 (by decide +kernel)
theorem lkL_9 : FL "OwedToWinds$Laws" 9 4 2 := ⟨RX4, TX4, 3, rfl, by decide, by decide, tb1 13 (by decide +kernel)⟩
theorem lkL_15 : FL "OwedToWinds$Laws" 15 4 0 := ⟨RX4, TX4, 3, rfl, by decide, by decide, tb1 11 (by decide +kernel)⟩
theorem lkL_19 : FL "OwedToWinds$Laws" 19 4 1 := ⟨RX4, TX4, 3, rfl, by decide, by decide, tb1 12 (by decide +kernel)⟩
theorem lkL_29 : FL "OwedToWinds$Laws" 29 9 0 := ⟨RX9, TX9, 18, rfl, by decide, by decide, tb0 39 (by decide +kernel)⟩
theorem lkL_34 : VL "OwedToWinds$Laws" 34 nL_reckoned 5 := ⟨mlL_reckoned, tb3 17 (by decide +kernel), imL_reckoned, seL_reckoned⟩
theorem lkL_25 : VL "OwedToWinds$Laws" 25 nL_rulingOn 1 := ⟨mlL_rulingOn, tb3 11 (by decide +kernel), imL_rulingOn, seL_rulingOn⟩
theorem lkL_38 : SL "OwedToWinds$Laws" 38 nL_within 2 := ⟨mlL_within, tb3 53 (by decide +kernel), stL_within⟩
theorem lkL_42 : FL "OwedToWinds$Laws" 42 9 7 := ⟨RX9, TX9, 18, rfl, by decide, by decide, tb0 62 (by decide +kernel)⟩
theorem lkL_45 : FL "OwedToWinds$Laws" 45 9 10 := ⟨RX9, TX9, 18, rfl, by decide, by decide, tb0 69 (by decide +kernel)⟩
theorem lkL_53 : VL "OwedToWinds$Laws" 53 nT_hasLaw 1 := ⟨mlT_hasLaw, tb3 16 (by decide +kernel), imT_hasLaw, seT_hasLaw⟩
theorem lkL_49 : VL "OwedToWinds$Laws" 49 nW_isText 1 := ⟨mlW_isText, tb3 15 (by decide +kernel), imW_isText, seW_isText⟩
theorem lkL_61 : SL "OwedToWinds$Laws" 61 nJ_max 2 := ⟨mlJ_max, tb3 57 (by decide +kernel), stJ_max⟩
theorem lkL_56 : SL "OwedToWinds$Laws" 56 nJ_min 2 := ⟨mlJ_min, tb3 56 (by decide +kernel), stJ_min⟩
theorem lkL_98 : SL "OwedToWinds$Laws" 98 nJ_maxL 2 := ⟨mlJ_maxL, tb3 50 (by decide +kernel), stJ_maxL⟩
theorem lkL_91 : Cond.constantLong "OwedToWinds$Laws" 91 (-1000000) ∈ gtb := tb3 45 (by decide +kernel)
theorem lkL_93 : Cond.constantLong "OwedToWinds$Laws" 93 1000000 ∈ gtb := tb3 46 (by decide +kernel)
theorem lkL_95 : SL "OwedToWinds$Laws" 95 nJ_minL 2 := ⟨mlJ_minL, tb3 47 (by decide +kernel), stJ_minL⟩
theorem lkL_87 : SL "OwedToWinds$Laws" 87 nL_ofTwo 3 := ⟨mlL_ofTwo, tb3 42 (by decide +kernel), stL_ofTwo⟩
theorem lkL_84 : SL "OwedToWinds$Laws" 84 nL_nearest 2 := ⟨mlL_nearest, tb3 36 (by decide +kernel), stL_nearest⟩
theorem lkL_80 : SL "OwedToWinds$Laws" 80 nJ_abs 1 := ⟨mlJ_abs, tb3 33 (by decide +kernel), stJ_abs⟩
theorem lkL_77 : VL "OwedToWinds$Laws" 77 nL_ofOne 2 := ⟨mlL_ofOne, tb3 25 (by decide +kernel), imL_ofOne, seL_ofOne⟩
theorem lkL_73 : VL "OwedToWinds$Laws" 73 nL_named 4 := ⟨mlL_named, tb3 21 (by decide +kernel), imL_named, seL_named⟩
theorem lkL_70 : FL "OwedToWinds$Laws" 70 7 0 := ⟨RX7, TX7, 6, rfl, by decide, by decide, tb0 221 (by decide +kernel)⟩
theorem lkL_67 : FL "OwedToWinds$Laws" 67 7 3 := ⟨RX7, TX7, 6, rfl, by decide, by decide, tb0 226 (by decide +kernel)⟩
theorem lkL_64 : FL "OwedToWinds$Laws" 64 7 2 := ⟨RX7, TX7, 6, rfl, by decide, by decide, tb0 224 (by decide +kernel)⟩
theorem lkL_100 : FL "OwedToWinds$Laws" 100 9 5 := ⟨RX9, TX9, 18, rfl, by decide, by decide, tb0 54 (by decide +kernel)⟩
theorem lkL_103 : VL "OwedToWinds$Laws" 103 nW_isWind 1 := ⟨mlW_isWind, tb3 29 (by decide +kernel), imW_isWind, seW_isWind⟩
theorem lkL_106 : SL "OwedToWinds$Laws" 106 nJ_floorDiv 2 := ⟨mlJ_floorDiv, tb3 39 (by decide +kernel), stJ_floorDiv⟩
theorem lkR_3 : Cond.methodLink "OwedToWinds$Reader" 3 Lib.objectInit ∈ gtb := tb0 136 (by decide +kernel)
theorem lkR_9 : FL "OwedToWinds$Reader" 9 5 1 := ⟨RX5, TX5, 15, rfl, by decide, by decide, tb0 142 (by decide +kernel)⟩
theorem lkR_15 : FL "OwedToWinds$Reader" 15 5 2 := ⟨RX5, TX5, 15, rfl, by decide, by decide, tb0 143 (by decide +kernel)⟩
theorem lkR_18 : FL "OwedToWinds$Reader" 18 5 3 := ⟨RX5, TX5, 15, rfl, by decide, by decide, tb0 144 (by decide +kernel)⟩
theorem lkR_21 : Cond.fieldLink "OwedToWinds$Reader" 21 "OwedToWinds$Word" (wordNm.getD 40 "") "LOwedToWinds$Word;" ∈ gtb := tb0 137 (by decide +kernel)
theorem lkR_27 : FL "OwedToWinds$Reader" 27 5 4 := ⟨RX5, TX5, 15, rfl, by decide, by decide, tb0 145 (by decide +kernel)⟩
theorem lkR_30 : FL "OwedToWinds$Reader" 30 5 5 := ⟨RX5, TX5, 15, rfl, by decide, by decide, tb0 146 (by decide +kernel)⟩
theorem lkR_33 : FL "OwedToWinds$Reader" 33 5 6 := ⟨RX5, TX5, 15, rfl, by decide, by decide, tb0 147 (by decide +kernel)⟩
theorem lkR_37 : FL "OwedToWinds$Reader" 37 5 7 := ⟨RX5, TX5, 15, rfl, by decide, by decide, tb0 148 (by decide +kernel)⟩
theorem lkR_40 : FL "OwedToWinds$Reader" 40 5 8 := ⟨RX5, TX5, 15, rfl, by decide, by decide, tb0 149 (by decide +kernel)⟩
theorem lkR_44 : FL "OwedToWinds$Reader" 44 5 9 := ⟨RX5, TX5, 15, rfl, by decide, by decide, tb0 150 (by decide +kernel)⟩
theorem lkR_22 : Cond.classLink "OwedToWinds$Reader" 22 "OwedToWinds$Word" ∈ gtb := tb0 139 (by decide +kernel)
theorem lkR_47 : FL "OwedToWinds$Reader" 47 5 10 := ⟨RX5, TX5, 15, rfl, by decide, by decide, tb0 151 (by decide +kernel)⟩
theorem lkR_51 : FL "OwedToWinds$Reader" 51 5 11 := ⟨RX5, TX5, 15, rfl, by decide, by decide, tb0 152 (by decide +kernel)⟩
theorem lkR_54 : FL "OwedToWinds$Reader" 54 5 12 := ⟨RX5, TX5, 15, rfl, by decide, by decide, tb0 153 (by decide +kernel)⟩
theorem lkR_57 : FL "OwedToWinds$Reader" 57 5 13 := ⟨RX5, TX5, 15, rfl, by decide, by decide, tb0 154 (by decide +kernel)⟩
theorem lkR_60 : FL "OwedToWinds$Reader" 60 5 14 := ⟨RX5, TX5, 15, rfl, by decide, by decide, tb0 156 (by decide +kernel)⟩
theorem lkR_63 : FL "OwedToWinds$Reader" 63 5 0 := ⟨RX5, TX5, 15, rfl, by decide, by decide, tb0 141 (by decide +kernel)⟩
theorem lkR_91 : VL "OwedToWinds$Reader" 91 nR_readDeed 1 := ⟨mlR_readDeed, tb2 150 (by decide +kernel), imR_readDeed, seR_readDeed⟩
theorem lkR_88 : VL "OwedToWinds$Reader" 88 nR_readLaw 1 := ⟨mlR_readLaw, tb2 60 (by decide +kernel), imR_readLaw, seR_readLaw⟩
theorem lkR_81 : Cond.fieldLink "OwedToWinds$Reader" 81 "OwedToWinds$Word" ((["clause", "code", "level"] : List String).getD 0 "") "I" ∈ gtb := tb8 26 (by decide +kernel)
theorem lkR_84 : VL "OwedToWinds$Reader" 84 nR_blameClause 1 := ⟨mlR_blameClause, tb2 48 (by decide +kernel), imR_blameClause, seR_blameClause⟩
theorem lkR_78 : VL "OwedToWinds$Reader" 78 nR_advance 0 := ⟨mlR_advance, tb1 212 (by decide +kernel), imR_advance, seR_advance⟩
theorem lkR_73 : VL "OwedToWinds$Reader" 73 nT_clear 0 := ⟨mlT_clear, tb1 208 (by decide +kernel), imT_clear, seT_clear⟩
theorem lkR_67 : SL "OwedToWinds$Reader" 67 nJ_min 2 := ⟨mlJ_min, tb1 205 (by decide +kernel), stJ_min⟩
theorem lkR_101 : FL "OwedToWinds$Reader" 101 7 5 := ⟨RX7, TX7, 6, rfl, by decide, by decide, tb0 230 (by decide +kernel)⟩
theorem lkR_94 : VL "OwedToWinds$Reader" 94 nR_blame 1 := ⟨mlR_blame, tb2 52 (by decide +kernel), imR_blame, seR_blame⟩
theorem lkR_97 : VL "OwedToWinds$Reader" 97 nT_hasLaw 1 := ⟨mlT_hasLaw, tb2 56 (by decide +kernel), imT_hasLaw, seT_hasLaw⟩
theorem lkR_129 : VL "OwedToWinds$Reader" 129 nT_addClause 4 := ⟨mlT_addClause, tb2 146 (by decide +kernel), imT_addClause, seT_addClause⟩
theorem lkR_126 : Cond.fieldLink "OwedToWinds$Reader" 126 "OwedToWinds$Word" (wordNm.getD 38 "") "LOwedToWinds$Word;" ∈ gtb := tb2 140 (by decide +kernel)
theorem lkR_110 : VL "OwedToWinds$Reader" 110 nR_expect 1 := ⟨mlR_expect, tb2 160 (by decide +kernel), imR_expect, seR_expect⟩
theorem lkR_104 : VL "OwedToWinds$Reader" 104 nR_expectNumber 2 := ⟨mlR_expectNumber, tb2 154 (by decide +kernel), imR_expectNumber, seR_expectNumber⟩
theorem lkR_123 : Cond.fieldLink "OwedToWinds$Reader" 123 "OwedToWinds$Word" (wordNm.getD 18 "") "LOwedToWinds$Word;" ∈ gtb := tb2 168 (by decide +kernel)
theorem lkR_120 : Cond.fieldLink "OwedToWinds$Reader" 120 "OwedToWinds$Word" (wordNm.getD 19 "") "LOwedToWinds$Word;" ∈ gtb := tb2 88 (by decide +kernel)
theorem lkR_117 : Cond.fieldLink "OwedToWinds$Reader" 117 "OwedToWinds$Word" (wordNm.getD 17 "") "LOwedToWinds$Word;" ∈ gtb := tb2 166 (by decide +kernel)
theorem lkR_114 : Cond.fieldLink "OwedToWinds$Reader" 114 "OwedToWinds$Word" (wordNm.getD 13 "") "LOwedToWinds$Word;" ∈ gtb := tb2 164 (by decide +kernel)
theorem lkR_107 : Cond.fieldLink "OwedToWinds$Reader" 107 "OwedToWinds$Word" (wordNm.getD 14 "") "LOwedToWinds$Word;" ∈ gtb := tb2 158 (by decide +kernel)
theorem lkR_133 : Cond.fieldLink "OwedToWinds$Reader" 133 "OwedToWinds$Word" (wordNm.getD 39 "") "LOwedToWinds$Word;" ∈ gtb := tb2 46 (by decide +kernel)
theorem lkR_145 : VL "OwedToWinds$Reader" 145 nT_endLaw 1 := ⟨mlT_endLaw, tb2 142 (by decide +kernel), imT_endLaw, seT_endLaw⟩
theorem lkR_142 : VL "OwedToWinds$Reader" 142 nR_readBehindOne 0 := ⟨mlR_readBehindOne, tb2 122 (by decide +kernel), imR_readBehindOne, seR_readBehindOne⟩
theorem lkR_139 : VL "OwedToWinds$Reader" 139 nR_readOne 0 := ⟨mlR_readOne, tb2 68 (by decide +kernel), imR_readOne, seR_readOne⟩
theorem lkR_136 : VL "OwedToWinds$Reader" 136 nT_beginLaw 1 := ⟨mlT_beginLaw, tb2 64 (by decide +kernel), imT_beginLaw, seT_beginLaw⟩
theorem lkR_152 : Cond.fieldLink "OwedToWinds$Reader" 152 "OwedToWinds$Word" (wordNm.getD 22 "") "LOwedToWinds$Word;" ∈ gtb := tb2 112 (by decide +kernel)
theorem lkR_155 : Cond.fieldLink "OwedToWinds$Reader" 155 "OwedToWinds$Word" (wordNm.getD 21 "") "LOwedToWinds$Word;" ∈ gtb := tb2 118 (by decide +kernel)
theorem lkR_158 : Cond.fieldLink "OwedToWinds$Reader" 158 "OwedToWinds$Word" (wordNm.getD 20 "") "LOwedToWinds$Word;" ∈ gtb := tb2 120 (by decide +kernel)
theorem lkR_148 : VL "OwedToWinds$Reader" 148 nR_top 0 := ⟨mlR_top, tb2 80 (by decide +kernel), imR_top, seR_top⟩
theorem lkR_186 : VL "OwedToWinds$Reader" 186 nR_openOne 1 := ⟨mlR_openOne, tb2 102 (by decide +kernel), imR_openOne, seR_openOne⟩
theorem lkR_195 : VL "OwedToWinds$Reader" 195 nR_isAtAsk 0 := ⟨mlR_isAtAsk, tb2 114 (by decide +kernel), imR_isAtAsk, seR_isAtAsk⟩
theorem lkR_189 : Cond.fieldLink "OwedToWinds$Reader" 189 "OwedToWinds$Word" (wordNm.getD 30 "") "LOwedToWinds$Word;" ∈ gtb := tb2 110 (by decide +kernel)
theorem lkR_192 : Cond.fieldLink "OwedToWinds$Reader" 192 "OwedToWinds$Word" (wordNm.getD 35 "") "LOwedToWinds$Word;" ∈ gtb := tb2 84 (by decide +kernel)
theorem lkR_177 : Cond.fieldLink "OwedToWinds$Reader" 177 "OwedToWinds$Word" (wordNm.getD 36 "") "LOwedToWinds$Word;" ∈ gtb := tb2 98 (by decide +kernel)
theorem lkR_180 : Cond.fieldLink "OwedToWinds$Reader" 180 "OwedToWinds$Word" (wordNm.getD 33 "") "LOwedToWinds$Word;" ∈ gtb := tb2 86 (by decide +kernel)
theorem lkR_183 : Cond.fieldLink "OwedToWinds$Reader" 183 "OwedToWinds$Word" (wordNm.getD 34 "") "LOwedToWinds$Word;" ∈ gtb := tb2 100 (by decide +kernel)
theorem lkR_164 : VL "OwedToWinds$Reader" 164 nR_closeOne 0 := ⟨mlR_closeOne, tb2 76 (by decide +kernel), imR_closeOne, seR_closeOne⟩
theorem lkR_174 : Cond.fieldLink "OwedToWinds$Reader" 174 "OwedToWinds$Word" ((["clause", "code", "level"] : List String).getD 1 "") "I" ∈ gtb := tb8 27 (by decide +kernel)
theorem lkR_161 : VL "OwedToWinds$Reader" 161 nT_put 1 := ⟨mlT_put, tb2 72 (by decide +kernel), imT_put, seT_put⟩
theorem lkR_171 : VL "OwedToWinds$Reader" 171 nK_isNameOf 1 := ⟨mlK_isNameOf, tb2 94 (by decide +kernel), imK_isNameOf, seK_isNameOf⟩
theorem lkR_167 : VL "OwedToWinds$Reader" 167 nK_isName 0 := ⟨mlK_isName, tb2 90 (by decide +kernel), imK_isName, seK_isName⟩
theorem lkR_198 : VL "OwedToWinds$Reader" 198 nR_push 1 := ⟨mlR_push, tb2 106 (by decide +kernel), imR_push, seR_push⟩
theorem lkR_207 : VL "OwedToWinds$Reader" 207 nR_readBehindSum 0 := ⟨mlR_readBehindSum, tb2 130 (by decide +kernel), imR_readBehindSum, seR_readBehindSum⟩
theorem lkR_204 : VL "OwedToWinds$Reader" 204 nR_putDownTo 1 := ⟨mlR_putDownTo, tb2 126 (by decide +kernel), imR_putDownTo, seR_putDownTo⟩
theorem lkR_201 : Cond.fieldLink "OwedToWinds$Reader" 201 "OwedToWinds$Word" ((["clause", "code", "level"] : List String).getD 2 "") "I" ∈ gtb := tb8 29 (by decide +kernel)
theorem lkR_213 : VL "OwedToWinds$Reader" 213 nK_compares 0 := ⟨mlK_compares, tb2 136 (by decide +kernel), imK_compares, seK_compares⟩
theorem lkR_210 : Cond.fieldLink "OwedToWinds$Reader" 210 "OwedToWinds$Word" (wordNm.getD 37 "") "LOwedToWinds$Word;" ∈ gtb := tb2 134 (by decide +kernel)
theorem lkR_219 : VL "OwedToWinds$Reader" 219 nR_spelled 0 := ⟨mlR_spelled, tb1 219 (by decide +kernel), imR_spelled, seR_spelled⟩
theorem lkR_225 : VL "OwedToWinds$Reader" 225 nR_readNumber 0 := ⟨mlR_readNumber, tb2 42 (by decide +kernel), imR_readNumber, seR_readNumber⟩
theorem lkR_222 : SL "OwedToWinds$Reader" 222 nR_isDigit 1 := ⟨mlR_isDigit, tb2 39 (by decide +kernel), stR_isDigit⟩
theorem lkR_216 : SL "OwedToWinds$Reader" 216 nR_isLetter 1 := ⟨mlR_isLetter, tb1 216 (by decide +kernel), stR_isLetter⟩
theorem lkR_239 : Cond.fieldLink "OwedToWinds$Reader" 239 "OwedToWinds$Word" (wordNm.getD 41 "") "LOwedToWinds$Word;" ∈ gtb := tb2 37 (by decide +kernel)
theorem lkR_228 : Cond.fieldLinkNest "OwedToWinds$Reader" 228 "OwedToWinds$Word" "ALL" "[LOwedToWinds$Word;" "OwedToWinds" ∈ gtb := tb1 223 (by decide +kernel)
theorem lkR_231 : Cond.fieldLink "OwedToWinds$Reader" 231 "OwedToWinds$Word" "spelling" "Ljava/lang/String;" ∈ gtb := tb8 23 (by decide +kernel)
theorem lkR_235 : VL "OwedToWinds$Reader" 235 nR_isSpelled 1 := ⟨mlR_isSpelled, tb1 225 (by decide +kernel), imR_isSpelled, seR_isSpelled⟩
theorem lkR_247 : VL "OwedToWinds$Reader" 247 nS_charAt 1 := ⟨mlS_charAt, tb1 239 (by decide +kernel), imS_charAt, seS_charAt⟩
theorem lkR_242 : VL "OwedToWinds$Reader" 242 nS_length 0 := ⟨mlS_length, tb1 229 (by decide +kernel), imS_length, seS_length⟩
theorem lkZ_3 : Cond.methodLink "OwedToWinds$Riddles" 3 Lib.objectInit ∈ gtb := tb1 92 (by decide +kernel)
theorem lkZ_9 : FL "OwedToWinds$Riddles" 9 6 2 := ⟨RX6, TX6, 6, rfl, by decide, by decide, tb1 95 (by decide +kernel)⟩
theorem lkZ_15 : FL "OwedToWinds$Riddles" 15 6 3 := ⟨RX6, TX6, 6, rfl, by decide, by decide, tb1 97 (by decide +kernel)⟩
theorem lkZ_18 : FL "OwedToWinds$Riddles" 18 6 4 := ⟨RX6, TX6, 6, rfl, by decide, by decide, tb1 98 (by decide +kernel)⟩
theorem lkZ_22 : FL "OwedToWinds$Riddles" 22 6 5 := ⟨RX6, TX6, 6, rfl, by decide, by decide, tb1 99 (by decide +kernel)⟩
theorem lkZ_25 : FL "OwedToWinds$Riddles" 25 6 0 := ⟨RX6, TX6, 6, rfl, by decide, by decide, tb1 93 (by decide +kernel)⟩
theorem lkZ_29 : FL "OwedToWinds$Riddles" 29 6 1 := ⟨RX6, TX6, 6, rfl, by decide, by decide, tb1 94 (by decide +kernel)⟩
theorem lkZ_33 : FL "OwedToWinds$Riddles" 33 9 6 := ⟨RX9, TX9, 18, rfl, by decide, by decide, tb0 57 (by decide +kernel)⟩
theorem lkZ_39 : VL "OwedToWinds$Riddles" 39 nL_takesOf 3 := ⟨mlL_takesOf, tb4 70 (by decide +kernel), imL_takesOf, seL_takesOf⟩
theorem lkZ_45 : VL "OwedToWinds$Riddles" 45 nZ_fits 2 := ⟨mlZ_fits, tb4 130 (by decide +kernel), imZ_fits, seZ_fits⟩
theorem lkZ_55 : FL "OwedToWinds$Riddles" 55 9 13 := ⟨RX9, TX9, 18, rfl, by decide, by decide, tb0 79 (by decide +kernel)⟩
theorem lkZ_49 : FL "OwedToWinds$Riddles" 49 9 11 := ⟨RX9, TX9, 18, rfl, by decide, by decide, tb0 73 (by decide +kernel)⟩
theorem lkZ_52 : FL "OwedToWinds$Riddles" 52 9 12 := ⟨RX9, TX9, 18, rfl, by decide, by decide, tb0 76 (by decide +kernel)⟩
theorem lkZ_58 : FL "OwedToWinds$Riddles" 58 9 4 := ⟨RX9, TX9, 18, rfl, by decide, by decide, tb0 49 (by decide +kernel)⟩
theorem lkZ_61 : VL "OwedToWinds$Riddles" 61 nZ_fittingForces 1 := ⟨mlZ_fittingForces, tb4 126 (by decide +kernel), imZ_fittingForces, seZ_fittingForces⟩
theorem lkZ_69 : VL "OwedToWinds$Riddles" 69 nZ_unlikeAnswers 1 := ⟨mlZ_unlikeAnswers, tb4 151 (by decide +kernel), imZ_unlikeAnswers, seZ_unlikeAnswers⟩
theorem lkZ_65 : VL "OwedToWinds$Riddles" 65 nZ_isTookOf 1 := ⟨mlZ_isTookOf, tb4 147 (by decide +kernel), imZ_isTookOf, seZ_isTookOf⟩
theorem lkZ_78 : FL "OwedToWinds$Riddles" 78 9 15 := ⟨RX9, TX9, 18, rfl, by decide, by decide, tb0 85 (by decide +kernel)⟩
theorem lkZ_81 : VL "OwedToWinds$Riddles" 81 nL_blowsOf 1 := ⟨mlL_blowsOf, tb4 167 (by decide +kernel), imL_blowsOf, seL_blowsOf⟩
theorem lkZ_75 : FL "OwedToWinds$Riddles" 75 9 14 := ⟨RX9, TX9, 18, rfl, by decide, by decide, tb0 82 (by decide +kernel)⟩
theorem lkZ_72 : FL "OwedToWinds$Riddles" 72 9 0 := ⟨RX9, TX9, 18, rfl, by decide, by decide, tb0 41 (by decide +kernel)⟩
theorem lkZ_84 : SL "OwedToWinds$Riddles" 84 nZ_payment 2 := ⟨mlZ_payment, tb4 180 (by decide +kernel), stZ_payment⟩
theorem lkZ_92 : VL "OwedToWinds$Riddles" 92 nZ_isSo 1 := ⟨mlZ_isSo, tb4 176 (by decide +kernel), imZ_isSo, seZ_isSo⟩
theorem lkZ_88 : VL "OwedToWinds$Riddles" 88 nZ_rows 0 := ⟨mlZ_rows, tb4 172 (by decide +kernel), imZ_rows, seZ_rows⟩
theorem lkZ_100 : SL "OwedToWinds$Riddles" 100 nJ_numberOfTrailingZeros 1 := ⟨mlJ_numberOfTrailingZeros, tb4 192 (by decide +kernel), stJ_numberOfTrailingZeros⟩
theorem lkZ_95 : SL "OwedToWinds$Riddles" 95 nJ_bitCount 1 := ⟨mlJ_bitCount, tb4 191 (by decide +kernel), stJ_bitCount⟩
theorem lkT_3 : Cond.methodLink "OwedToWinds$Text" 3 Lib.objectInit ∈ gtb := tb0 219 (by decide +kernel)
theorem lkT_9 : FL "OwedToWinds$Text" 9 7 0 := ⟨RX7, TX7, 6, rfl, by decide, by decide, tb0 220 (by decide +kernel)⟩
theorem lkT_15 : FL "OwedToWinds$Text" 15 7 1 := ⟨RX7, TX7, 6, rfl, by decide, by decide, tb0 222 (by decide +kernel)⟩
theorem lkT_19 : FL "OwedToWinds$Text" 19 7 2 := ⟨RX7, TX7, 6, rfl, by decide, by decide, tb0 223 (by decide +kernel)⟩
theorem lkT_22 : FL "OwedToWinds$Text" 22 7 3 := ⟨RX7, TX7, 6, rfl, by decide, by decide, tb0 225 (by decide +kernel)⟩
theorem lkT_25 : FL "OwedToWinds$Text" 25 7 4 := ⟨RX7, TX7, 6, rfl, by decide, by decide, tb0 227 (by decide +kernel)⟩
theorem lkT_28 : FL "OwedToWinds$Text" 28 7 5 := ⟨RX7, TX7, 6, rfl, by decide, by decide, tb0 229 (by decide +kernel)⟩
theorem lkK_159 : Cond.fieldLink "OwedToWinds$Word" 159 "OwedToWinds$Word" ((["clause", "code", "level"] : List String).getD 1 "") "I" ∈ gtb := tb8 28 (by decide +kernel)
theorem lkK_162 : Cond.fieldLink "OwedToWinds$Word" 162 "OwedToWinds$Word" ((["clause", "code", "level"] : List String).getD 2 "") "I" ∈ gtb := tb8 30 (by decide +kernel)
theorem lkW_5 : Cond.methodLink "OwedToWinds$World" 5 Lib.objectInit ∈ gtb := tb0 34 (by decide +kernel)
theorem lkW_11 : FL "OwedToWinds$World" 11 9 0 := ⟨RX9, TX9, 18, rfl, by decide, by decide, tb0 37 (by decide +kernel)⟩
theorem lkW_15 : Cond.classLink "OwedToWinds$World" 15 "[[I" ∈ gtb := tb0 35 (by decide +kernel)
theorem lkW_17 : FL "OwedToWinds$World" 17 9 1 := ⟨RX9, TX9, 18, rfl, by decide, by decide, tb0 43 (by decide +kernel)⟩
theorem lkW_20 : FL "OwedToWinds$World" 20 9 2 := ⟨RX9, TX9, 18, rfl, by decide, by decide, tb0 44 (by decide +kernel)⟩
theorem lkW_24 : FL "OwedToWinds$World" 24 9 3 := ⟨RX9, TX9, 18, rfl, by decide, by decide, tb0 45 (by decide +kernel)⟩
theorem lkW_27 : FL "OwedToWinds$World" 27 9 4 := ⟨RX9, TX9, 18, rfl, by decide, by decide, tb0 47 (by decide +kernel)⟩
theorem lkW_30 : FL "OwedToWinds$World" 30 9 5 := ⟨RX9, TX9, 18, rfl, by decide, by decide, tb0 52 (by decide +kernel)⟩
theorem lkW_33 : FL "OwedToWinds$World" 33 9 6 := ⟨RX9, TX9, 18, rfl, by decide, by decide, tb0 56 (by decide +kernel)⟩
theorem lkW_36 : FL "OwedToWinds$World" 36 9 7 := ⟨RX9, TX9, 18, rfl, by decide, by decide, tb0 61 (by decide +kernel)⟩
theorem lkW_39 : FL "OwedToWinds$World" 39 9 8 := ⟨RX9, TX9, 18, rfl, by decide, by decide, tb0 64 (by decide +kernel)⟩
theorem lkW_42 : FL "OwedToWinds$World" 42 9 9 := ⟨RX9, TX9, 18, rfl, by decide, by decide, tb0 65 (by decide +kernel)⟩
theorem lkW_45 : FL "OwedToWinds$World" 45 9 10 := ⟨RX9, TX9, 18, rfl, by decide, by decide, tb0 68 (by decide +kernel)⟩
theorem lkW_48 : FL "OwedToWinds$World" 48 9 11 := ⟨RX9, TX9, 18, rfl, by decide, by decide, tb0 72 (by decide +kernel)⟩
theorem lkW_51 : FL "OwedToWinds$World" 51 9 12 := ⟨RX9, TX9, 18, rfl, by decide, by decide, tb0 75 (by decide +kernel)⟩
theorem lkW_54 : FL "OwedToWinds$World" 54 9 13 := ⟨RX9, TX9, 18, rfl, by decide, by decide, tb0 78 (by decide +kernel)⟩
theorem lkW_57 : FL "OwedToWinds$World" 57 9 14 := ⟨RX9, TX9, 18, rfl, by decide, by decide, tb0 81 (by decide +kernel)⟩
theorem lkW_60 : FL "OwedToWinds$World" 60 9 15 := ⟨RX9, TX9, 18, rfl, by decide, by decide, tb0 84 (by decide +kernel)⟩
theorem lkW_63 : FL "OwedToWinds$World" 63 9 16 := ⟨RX9, TX9, 18, rfl, by decide, by decide, tb0 87 (by decide +kernel)⟩
theorem lkW_66 : FL "OwedToWinds$World" 66 9 17 := ⟨RX9, TX9, 18, rfl, by decide, by decide, tb0 89 (by decide +kernel)⟩
theorem lkW_69 : SL "OwedToWinds$World" 69 nW_copyRow 2 := ⟨mlW_copyRow, tb2 203 (by decide +kernel), stW_copyRow⟩
theorem lkW_79 : Cond.methodLink "OwedToWinds$World" 79 arraycopyName ∈ gtb := tb2 207 (by decide +kernel)
theorem lkW_73 : SL "OwedToWinds$World" 73 nJ_min 2 := ⟨mlJ_min, tb2 206 (by decide +kernel), stJ_min⟩
theorem lkW_85 : VL "OwedToWinds$World" 85 nW_isHere 1 := ⟨mlW_isHere, tb3 70 (by decide +kernel), imW_isHere, seW_isHere⟩
theorem lkW_89 : VL "OwedToWinds$World" 89 nW_weightOf 1 := ⟨mlW_weightOf, tb3 66 (by decide +kernel), imW_weightOf, seW_weightOf⟩
theorem lkW_93 : SL "OwedToWinds$World" 93 nW_setWind 4 := ⟨mlW_setWind, tb1 159 (by decide +kernel), stW_setWind⟩
theorem lkW_97 : SL "OwedToWinds$World" 97 nW_setVillage 3 := ⟨mlW_setVillage, tb1 170 (by decide +kernel), stW_setVillage⟩
theorem lkW_101 : VL "OwedToWinds$World" 101 nW_isVillage 1 := ⟨mlW_isVillage, tb1 181 (by decide +kernel), imW_isVillage, seW_isVillage⟩
theorem lkW_109 : Cond.constant "OwedToWinds$World" 109 1000000 ∈ gtb := tb3 183 (by decide +kernel)
theorem lkW_108 : Cond.constant "OwedToWinds$World" 108 100000 ∈ gtb := tb3 182 (by decide +kernel)
theorem lkW_104 : VL "OwedToWinds$World" 104 nW_pages 0 := ⟨mlW_pages, tb3 181 (by decide +kernel), imW_pages, seW_pages⟩
theorem lkY_211 : VL "OwedToWindsLaw" 211 nM_about 1 := ⟨mlM_about, tb8 19 (by decide +kernel), imM_about, seM_about⟩
theorem lkY_208 : VL "OwedToWindsLaw" 208 nX_about 1 := ⟨mlX_about, tb5 10 (by decide +kernel), imX_about, seX_about⟩
theorem lkY_207 : VL "OwedToWindsLaw" 207 nM_back 0 := ⟨mlM_back, tb8 15 (by decide +kernel), imM_back, seM_back⟩
theorem lkY_204 : VL "OwedToWindsLaw" 204 nX_back 0 := ⟨mlX_back, tb5 6 (by decide +kernel), imX_back, seX_back⟩
theorem lkY_203 : VL "OwedToWindsLaw" 203 nM_image 0 := ⟨mlM_image, tb8 11 (by decide +kernel), imM_image, seM_image⟩
theorem lkY_200 : VL "OwedToWindsLaw" 200 nX_image 0 := ⟨mlX_image, tb4 238 (by decide +kernel), imX_image, seX_image⟩
theorem lkY_199 : VL "OwedToWindsLaw" 199 nM_worstDay 0 := ⟨mlM_worstDay, tb7 65 (by decide +kernel), imM_worstDay, seM_worstDay⟩
theorem lkY_196 : VL "OwedToWindsLaw" 196 nX_worstDay 0 := ⟨mlX_worstDay, tb4 234 (by decide +kernel), imX_worstDay, seX_worstDay⟩
theorem lkY_195 : VL "OwedToWindsLaw" 195 nM_often 1 := ⟨mlM_often, tb7 61 (by decide +kernel), imM_often, seM_often⟩
theorem lkY_192 : VL "OwedToWindsLaw" 192 nX_often 1 := ⟨mlX_often, tb4 230 (by decide +kernel), imX_often, seX_often⟩
theorem lkY_191 : VL "OwedToWindsLaw" 191 nM_richest 0 := ⟨mlM_richest, tb7 73 (by decide +kernel), imM_richest, seM_richest⟩
theorem lkY_188 : VL "OwedToWindsLaw" 188 nX_richest 0 := ⟨mlX_richest, tb4 226 (by decide +kernel), imX_richest, seX_richest⟩
theorem lkY_187 : VL "OwedToWindsLaw" 187 nM_strongest 0 := ⟨mlM_strongest, tb7 69 (by decide +kernel), imM_strongest, seM_strongest⟩
theorem lkY_184 : VL "OwedToWindsLaw" 184 nX_strongest 0 := ⟨mlX_strongest, tb4 221 (by decide +kernel), imX_strongest, seX_strongest⟩
theorem lkY_183 : VL "OwedToWindsLaw" 183 nM_calms 2 := ⟨mlM_calms, tb7 126 (by decide +kernel), imM_calms, seM_calms⟩
theorem lkY_179 : VL "OwedToWindsLaw" 179 nX_calms 2 := ⟨mlX_calms, tb4 212 (by decide +kernel), imX_calms, seX_calms⟩
theorem lkY_178 : VL "OwedToWindsLaw" 178 nM_inKind 2 := ⟨mlM_inKind, tb8 3 (by decide +kernel), imM_inKind, seM_inKind⟩
theorem lkY_175 : VL "OwedToWindsLaw" 175 nX_inKind 2 := ⟨mlX_inKind, tb4 200 (by decide +kernel), imX_inKind, seX_inKind⟩
theorem lkY_174 : VL "OwedToWindsLaw" 174 nM_kind 1 := ⟨mlM_kind, tb7 239 (by decide +kernel), imM_kind, seM_kind⟩
theorem lkY_171 : VL "OwedToWindsLaw" 171 nX_kind 1 := ⟨mlX_kind, tb4 196 (by decide +kernel), imX_kind, seX_kind⟩
theorem lkY_170 : VL "OwedToWindsLaw" 170 nM_sure 3 := ⟨mlM_sure, tb7 235 (by decide +kernel), imM_sure, seM_sure⟩
theorem lkY_167 : VL "OwedToWindsLaw" 167 nX_sure 3 := ⟨mlX_sure, tb4 183 (by decide +kernel), imX_sure, seX_sure⟩
theorem lkY_166 : VL "OwedToWindsLaw" 166 nM_sails 2 := ⟨mlM_sails, tb7 220 (by decide +kernel), imM_sails, seM_sails⟩
theorem lkY_163 : VL "OwedToWindsLaw" 163 nX_sails 2 := ⟨mlX_sails, tb4 159 (by decide +kernel), imX_sails, seX_sails⟩
theorem lkY_162 : VL "OwedToWindsLaw" 162 nM_sail 1 := ⟨mlM_sail, tb7 216 (by decide +kernel), imM_sail, seM_sail⟩
theorem lkY_159 : VL "OwedToWindsLaw" 159 nX_sail 1 := ⟨mlX_sail, tb4 155 (by decide +kernel), imX_sail, seX_sail⟩
theorem lkY_158 : VL "OwedToWindsLaw" 158 nM_vane 0 := ⟨mlM_vane, tb7 204 (by decide +kernel), imM_vane, seM_vane⟩
theorem lkY_155 : VL "OwedToWindsLaw" 155 nX_vane 0 := ⟨mlX_vane, tb4 139 (by decide +kernel), imX_vane, seX_vane⟩
theorem lkY_154 : VL "OwedToWindsLaw" 154 nM_strengths 1 := ⟨mlM_strengths, tb7 200 (by decide +kernel), imM_strengths, seM_strengths⟩
theorem lkY_151 : VL "OwedToWindsLaw" 151 nX_strengths 1 := ⟨mlX_strengths, tb4 134 (by decide +kernel), imX_strengths, seX_strengths⟩
theorem lkY_150 : VL "OwedToWindsLaw" 150 nM_whoseWind 0 := ⟨mlM_whoseWind, tb7 188 (by decide +kernel), imM_whoseWind, seM_whoseWind⟩
theorem lkY_147 : VL "OwedToWindsLaw" 147 nX_whoseWind 0 := ⟨mlX_whoseWind, tb4 118 (by decide +kernel), imX_whoseWind, seX_whoseWind⟩
theorem lkY_146 : VL "OwedToWindsLaw" 146 nM_took 2 := ⟨mlM_took, tb7 184 (by decide +kernel), imM_took, seM_took⟩
theorem lkY_143 : VL "OwedToWindsLaw" 143 nX_took 2 := ⟨mlX_took, tb4 114 (by decide +kernel), imX_took, seX_took⟩
theorem lkY_142 : VL "OwedToWindsLaw" 142 nM_voyage 3 := ⟨mlM_voyage, tb7 168 (by decide +kernel), imM_voyage, seM_voyage⟩
theorem lkY_139 : VL "OwedToWindsLaw" 139 nX_voyage 3 := ⟨mlX_voyage, tb4 82 (by decide +kernel), imX_voyage, seX_voyage⟩
theorem lkY_138 : VL "OwedToWindsLaw" 138 nM_share 5 := ⟨mlM_share, tb7 153 (by decide +kernel), imM_share, seM_share⟩
theorem lkY_134 : VL "OwedToWindsLaw" 134 nX_share 5 := ⟨mlX_share, tb4 56 (by decide +kernel), imX_share, seX_share⟩
theorem lkY_133 : VL "OwedToWindsLaw" 133 nM_least 3 := ⟨mlM_least, tb7 141 (by decide +kernel), imM_least, seM_least⟩
theorem lkY_129 : VL "OwedToWindsLaw" 129 nX_least 3 := ⟨mlX_least, tb4 40 (by decide +kernel), imX_least, seX_least⟩
theorem lkY_128 : VL "OwedToWindsLaw" 128 nM_odds 3 := ⟨mlM_odds, tb7 130 (by decide +kernel), imM_odds, seM_odds⟩
theorem lkY_124 : VL "OwedToWindsLaw" 124 nX_odds 3 := ⟨mlX_odds, tb4 25 (by decide +kernel), imX_odds, seX_odds⟩
theorem lkY_123 : VL "OwedToWindsLaw" 123 nM_whose 1 := ⟨mlM_whose, tb7 121 (by decide +kernel), imM_whose, seM_whose⟩
theorem lkY_120 : VL "OwedToWindsLaw" 120 nX_whose 1 := ⟨mlX_whose, tb4 17 (by decide +kernel), imX_whose, seX_whose⟩
theorem lkY_119 : VL "OwedToWindsLaw" 119 nM_broke 1 := ⟨mlM_broke, tb7 117 (by decide +kernel), imM_broke, seM_broke⟩
theorem lkY_116 : VL "OwedToWindsLaw" 116 nX_broke 1 := ⟨mlX_broke, tb4 9 (by decide +kernel), imX_broke, seX_broke⟩
theorem lkY_115 : VL "OwedToWindsLaw" 115 nM_arrears 0 := ⟨mlM_arrears, tb7 109 (by decide +kernel), imM_arrears, seM_arrears⟩
theorem lkY_112 : VL "OwedToWindsLaw" 112 nX_arrears 0 := ⟨mlX_arrears, tb3 228 (by decide +kernel), imX_arrears, seX_arrears⟩
theorem lkY_111 : VL "OwedToWindsLaw" 111 nM_owed 2 := ⟨mlM_owed, tb7 105 (by decide +kernel), imM_owed, seM_owed⟩
theorem lkY_108 : VL "OwedToWindsLaw" 108 nX_owed 2 := ⟨mlX_owed, tb3 224 (by decide +kernel), imX_owed, seX_owed⟩
theorem lkY_107 : VL "OwedToWindsLaw" 107 nM_purse 2 := ⟨mlM_purse, tb7 101 (by decide +kernel), imM_purse, seM_purse⟩
theorem lkY_104 : VL "OwedToWindsLaw" 104 nX_purse 2 := ⟨mlX_purse, tb3 216 (by decide +kernel), imX_purse, seX_purse⟩
theorem lkY_103 : VL "OwedToWindsLaw" 103 nM_foretold 1 := ⟨mlM_foretold, tb7 77 (by decide +kernel), imM_foretold, seM_foretold⟩
theorem lkY_100 : VL "OwedToWindsLaw" 100 nX_foretold 1 := ⟨mlX_foretold, tb3 184 (by decide +kernel), imX_foretold, seX_foretold⟩
theorem lkY_99 : VL "OwedToWindsLaw" 99 nM_book 2 := ⟨mlM_book, tb7 49 (by decide +kernel), imM_book, seM_book⟩
theorem lkY_96 : VL "OwedToWindsLaw" 96 nX_book 2 := ⟨mlX_book, tb3 169 (by decide +kernel), imX_book, seX_book⟩
theorem lkY_95 : VL "OwedToWindsLaw" 95 nM_is 1 := ⟨mlM_is, tb7 45 (by decide +kernel), imM_is, seM_is⟩
theorem lkY_92 : VL "OwedToWindsLaw" 92 nX_is 1 := ⟨mlX_is, tb3 165 (by decide +kernel), imX_is, seX_is⟩
theorem lkY_91 : VL "OwedToWindsLaw" 91 nM_catches 3 := ⟨mlM_catches, tb7 41 (by decide +kernel), imM_catches, seM_catches⟩
theorem lkY_88 : VL "OwedToWindsLaw" 88 nX_catches 3 := ⟨mlX_catches, tb3 161 (by decide +kernel), imX_catches, seX_catches⟩
theorem lkY_87 : VL "OwedToWindsLaw" 87 nM_takes 3 := ⟨mlM_takes, tb7 37 (by decide +kernel), imM_takes, seM_takes⟩
theorem lkY_84 : VL "OwedToWindsLaw" 84 nX_takes 3 := ⟨mlX_takes, tb3 153 (by decide +kernel), imX_takes, seX_takes⟩
theorem lkY_83 : VL "OwedToWindsLaw" 83 nM_ofVillage 2 := ⟨mlM_ofVillage, tb7 33 (by decide +kernel), imM_ofVillage, seM_ofVillage⟩
theorem lkY_80 : VL "OwedToWindsLaw" 80 nX_ofVillage 2 := ⟨mlX_ofVillage, tb3 147 (by decide +kernel), imX_ofVillage, seX_ofVillage⟩
theorem lkY_79 : VL "OwedToWindsLaw" 79 nM_ofWind 2 := ⟨mlM_ofWind, tb7 29 (by decide +kernel), imM_ofWind, seM_ofWind⟩
theorem lkY_76 : VL "OwedToWindsLaw" 76 nX_ofWind 2 := ⟨mlX_ofWind, tb3 139 (by decide +kernel), imX_ofWind, seX_ofWind⟩
theorem lkY_75 : VL "OwedToWindsLaw" 75 nM_undo 0 := ⟨mlM_undo, tb6 98 (by decide +kernel), imM_undo, seM_undo⟩
theorem lkY_72 : VL "OwedToWindsLaw" 72 nX_undo 0 := ⟨mlX_undo, tb3 131 (by decide +kernel), imX_undo, seX_undo⟩
theorem lkY_71 : VL "OwedToWindsLaw" 71 nM_years 2 := ⟨mlM_years, tb7 21 (by decide +kernel), imM_years, seM_years⟩
theorem lkY_68 : VL "OwedToWindsLaw" 68 nX_years 2 := ⟨mlX_years, tb3 115 (by decide +kernel), imX_years, seX_years⟩
theorem lkY_67 : VL "OwedToWindsLaw" 67 nM_played 1 := ⟨mlM_played, tb7 8 (by decide +kernel), imM_played, seM_played⟩
theorem lkY_64 : VL "OwedToWindsLaw" 64 nX_played 1 := ⟨mlX_played, tb3 96 (by decide +kernel), imX_played, seX_played⟩
theorem lkY_63 : VL "OwedToWindsLaw" 63 nM_day 1 := ⟨mlM_day, tb6 141 (by decide +kernel), imM_day, seM_day⟩
theorem lkY_60 : VL "OwedToWindsLaw" 60 nX_day 1 := ⟨mlX_day, tb2 234 (by decide +kernel), imX_day, seX_day⟩
theorem lkY_59 : VL "OwedToWindsLaw" 59 nM_merge 2 := ⟨mlM_merge, tb6 130 (by decide +kernel), imM_merge, seM_merge⟩
theorem lkY_56 : VL "OwedToWindsLaw" 56 nX_merge 2 := ⟨mlX_merge, tb2 214 (by decide +kernel), imX_merge, seX_merge⟩
theorem lkY_55 : VL "OwedToWindsLaw" 55 nM_pay 3 := ⟨mlM_pay, tb6 106 (by decide +kernel), imM_pay, seM_pay⟩
theorem lkY_52 : VL "OwedToWindsLaw" 52 nX_pay 3 := ⟨mlX_pay, tb2 182 (by decide +kernel), imX_pay, seX_pay⟩
theorem lkY_51 : VL "OwedToWindsLaw" 51 nM_by 1 := ⟨mlM_by, tb6 94 (by decide +kernel), imM_by, seM_by⟩
theorem lkY_47 : VL "OwedToWindsLaw" 47 nX_by 1 := ⟨mlX_by, tb2 174 (by decide +kernel), imX_by, seX_by⟩
theorem lkY_46 : VL "OwedToWindsLaw" 46 nM_fault 1 := ⟨mlM_fault, tb6 90 (by decide +kernel), imM_fault, seM_fault⟩
theorem lkY_43 : VL "OwedToWindsLaw" 43 nX_fault 1 := ⟨mlX_fault, tb2 170 (by decide +kernel), imX_fault, seX_fault⟩
theorem lkY_42 : VL "OwedToWindsLaw" 42 nM_text 0 := ⟨mlM_text, tb5 186 (by decide +kernel), imM_text, seM_text⟩
theorem lkY_38 : VL "OwedToWindsLaw" 38 nX_text 0 := ⟨mlX_text, tb1 197 (by decide +kernel), imX_text, seX_text⟩
theorem lkY_37 : VL "OwedToWindsLaw" 37 nM_end 1 := ⟨mlM_end, tb5 182 (by decide +kernel), imM_end, seM_end⟩
theorem lkY_33 : VL "OwedToWindsLaw" 33 nX_end 1 := ⟨mlX_end, tb1 193 (by decide +kernel), imX_end, seX_end⟩
theorem lkY_32 : VL "OwedToWindsLaw" 32 nM_feed 5 := ⟨mlM_feed, tb5 174 (by decide +kernel), imM_feed, seM_feed⟩
theorem lkY_28 : VL "OwedToWindsLaw" 28 nX_feed 5 := ⟨mlX_feed, tb1 185 (by decide +kernel), imX_feed, seX_feed⟩
theorem lkY_27 : VL "OwedToWindsLaw" 27 nM_way 3 := ⟨mlM_way, tb5 166 (by decide +kernel), imM_way, seM_way⟩
theorem lkY_23 : VL "OwedToWindsLaw" 23 nX_way 3 := ⟨mlX_way, tb1 173 (by decide +kernel), imX_way, seX_way⟩
theorem lkY_22 : VL "OwedToWindsLaw" 22 nM_village 2 := ⟨mlM_village, tb5 158 (by decide +kernel), imM_village, seM_village⟩
theorem lkY_18 : VL "OwedToWindsLaw" 18 nX_village 2 := ⟨mlX_village, tb1 162 (by decide +kernel), imX_village, seX_village⟩
theorem lkY_17 : VL "OwedToWindsLaw" 17 nM_wind 3 := ⟨mlM_wind, tb5 139 (by decide +kernel), imM_wind, seM_wind⟩
theorem lkY_13 : VL "OwedToWindsLaw" 13 nX_wind 3 := ⟨mlX_wind, tb1 151 (by decide +kernel), imX_wind, seX_wind⟩
theorem lkY_10 : NL "OwedToWindsLaw" 10 11 := ⟨RX11, TX11, 38, rfl, by decide, tb5 14 (by decide +kernel)⟩
theorem lkY_12 : IL "OwedToWindsLaw" 12 nM_init 0 := ⟨mlM_init, by decide +kernel, by decide +kernel, tb5 16 (by decide +kernel), imM_init⟩
theorem lkY_7 : NL "OwedToWindsLaw" 7 10 := ⟨RX10, TX10, 12, rfl, by decide, tb0 21 (by decide +kernel)⟩
theorem lkY_9 : IL "OwedToWindsLaw" 9 nX_init 0 := ⟨mlX_init, by decide +kernel, by decide +kernel, tb0 23 (by decide +kernel), imX_init⟩
def decs (cc : ByteArray) (l : List (Nat × Instr × Nat)) : Bool := l.all (fun q => decide (decode cc q.1 = .ok (q.2.1, q.2.2)))
theorem dcg {cc : ByteArray} {l : List (Nat × Instr × Nat)} (h : decs cc l = true) (i : Nat) {pc n : Nat} {x : Instr} (hi : l[i]? = some (pc, x, n)) : decode cc pc = .ok (x, n) := of_decide_eq_true (List.all_eq_true.mp h _ (List.mem_of_getElem? hi))
theorem LEc {J : Nat → Ct} {b r : Ct} {pc h : Nat} (h1 : LE b (J h)) (h2 : LE r (J pc)) : LE (cond (Nat.beq pc h) b r) (J pc) := by
  cases hb : Nat.beq pc h with
  | true => rw [Nat.eq_of_beq_eq_true hb]; exact h1
  | false => exact h2
