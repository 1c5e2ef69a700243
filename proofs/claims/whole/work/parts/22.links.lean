/-! what the tables say of the methods and the links (by program) -/
theorem tbS {w : Cond} (i : Nat) (h : (k2_sels lw_privs)[i]? = some w) (hg : goodWord w = true := by rfl) : w ∈ gtb := List.mem_filter.mpr ⟨List.mem_append_left _ (List.mem_of_getElem? h), hg⟩
theorem mlJ_max : ML nJ_max 2 := ⟨tbI 713 (by decide +kernel), tbI 14 (by decide +kernel), ⟨by decide +kernel, by decide +kernel, by decide +kernel⟩, by decide +kernel⟩
theorem stJ_max : Cond.static (nmT nJ_max) ∈ gtb := tbI 712 (by decide +kernel)
theorem mlJ_min : ML nJ_min 2 := ⟨tbI 447 (by decide +kernel), tbI 14 (by decide +kernel), ⟨by decide +kernel, by decide +kernel, by decide +kernel⟩, by decide +kernel⟩
theorem stJ_min : Cond.static (nmT nJ_min) ∈ gtb := tbI 446 (by decide +kernel)
theorem mlJ_maxL : ML nJ_maxL 2 := ⟨tbI 772 (by decide +kernel), tbI 14 (by decide +kernel), ⟨by decide +kernel, by decide +kernel, by decide +kernel⟩, by decide +kernel⟩
theorem stJ_maxL : Cond.static (nmT nJ_maxL) ∈ gtb := tbI 771 (by decide +kernel)
theorem mlJ_minL : ML nJ_minL 2 := ⟨tbI 769 (by decide +kernel), tbI 14 (by decide +kernel), ⟨by decide +kernel, by decide +kernel, by decide +kernel⟩, by decide +kernel⟩
theorem stJ_minL : Cond.static (nmT nJ_minL) ∈ gtb := tbI 768 (by decide +kernel)
theorem mlJ_abs : ML nJ_abs 1 := ⟨tbI 755 (by decide +kernel), tbI 14 (by decide +kernel), ⟨by decide +kernel, by decide +kernel, by decide +kernel⟩, by decide +kernel⟩
theorem stJ_abs : Cond.static (nmT nJ_abs) ∈ gtb := tbI 754 (by decide +kernel)
theorem mlJ_floorDiv : ML nJ_floorDiv 2 := ⟨tbI 761 (by decide +kernel), tbI 14 (by decide +kernel), ⟨by decide +kernel, by decide +kernel, by decide +kernel⟩, by decide +kernel⟩
theorem stJ_floorDiv : Cond.static (nmT nJ_floorDiv) ∈ gtb := tbI 760 (by decide +kernel)
theorem mlJ_bitCount : ML nJ_bitCount 1 := ⟨tbI 1022 (by decide +kernel), tbI 20 (by decide +kernel), ⟨by decide +kernel, by decide +kernel, by decide +kernel⟩, by decide +kernel⟩
theorem stJ_bitCount : Cond.static (nmT nJ_bitCount) ∈ gtb := tbI 1021 (by decide +kernel)
theorem mlJ_numberOfTrailingZeros : ML nJ_numberOfTrailingZeros 1 := ⟨tbI 1154 (by decide +kernel), tbI 20 (by decide +kernel), ⟨by decide +kernel, by decide +kernel, by decide +kernel⟩, by decide +kernel⟩
theorem stJ_numberOfTrailingZeros : Cond.static (nmT nJ_numberOfTrailingZeros) ∈ gtb := tbI 1153 (by decide +kernel)
theorem mlS_length : ML nS_length 0 := ⟨tbI 472 (by decide +kernel), tbI 15 (by decide +kernel), ⟨by decide +kernel, by decide +kernel, by decide +kernel⟩, by decide +kernel⟩
theorem imS_length : Cond.instanceMethod (nmT nS_length) ∈ gtb := tbI 470 (by decide +kernel)
theorem seS_length : Cond.selects (nmT nS_length).cls (nmT nS_length) (nmT nS_length) ∈ gtb := tbI 471 (by decide +kernel)
theorem mlS_coder : ML nS_coder 0 := ⟨tbI 476 (by decide +kernel), tbI 15 (by decide +kernel), ⟨by decide +kernel, by decide +kernel, by decide +kernel⟩, by decide +kernel⟩
theorem imS_coder : Cond.instanceMethod (nmT nS_coder) ∈ gtb := tbI 474 (by decide +kernel)
theorem seS_coder : Cond.selects (nmT nS_coder).cls (nmT nS_coder) (nmT nS_coder) ∈ gtb := tbI 475 (by decide +kernel)
theorem mlS_charAt : ML nS_charAt 1 := ⟨tbI 482 (by decide +kernel), tbI 15 (by decide +kernel), ⟨by decide +kernel, by decide +kernel, by decide +kernel⟩, by decide +kernel⟩
theorem imS_charAt : Cond.instanceMethod (nmT nS_charAt) ∈ gtb := tbI 480 (by decide +kernel)
theorem seS_charAt : Cond.selects (nmT nS_charAt).cls (nmT nS_charAt) (nmT nS_charAt) ∈ gtb := tbI 481 (by decide +kernel)
theorem mlS_isLatin1 : ML nS_isLatin1 0 := ⟨tbI 486 (by decide +kernel), tbI 15 (by decide +kernel), ⟨by decide +kernel, by decide +kernel, by decide +kernel⟩, by decide +kernel⟩
theorem imS_isLatin1 : Cond.instanceMethod (nmT nS_isLatin1) ∈ gtb := tbI 484 (by decide +kernel)
theorem seS_isLatin1 : Cond.selects (nmT nS_isLatin1).cls (nmT nS_isLatin1) (nmT nS_isLatin1) ∈ gtb := tbI 485 (by decide +kernel)
theorem mlS_checkIndex : ML nS_checkIndex 2 := ⟨tbI 492 (by decide +kernel), tbI 15 (by decide +kernel), ⟨by decide +kernel, by decide +kernel, by decide +kernel⟩, by decide +kernel⟩
theorem stS_checkIndex : Cond.static (nmT nS_checkIndex) ∈ gtb := tbI 491 (by decide +kernel)
theorem mlU_charAt : ML nU_charAt 2 := ⟨tbI 489 (by decide +kernel), tbI 16 (by decide +kernel), ⟨by decide +kernel, by decide +kernel, by decide +kernel⟩, by decide +kernel⟩
theorem stU_charAt : Cond.static (nmT nU_charAt) ∈ gtb := tbI 488 (by decide +kernel)
theorem mlP_checkIndex : ML nP_checkIndex 3 := ⟨tbI 497 (by decide +kernel), tbI 17 (by decide +kernel), ⟨by decide +kernel, by decide +kernel, by decide +kernel⟩, by decide +kernel⟩
theorem stP_checkIndex : Cond.static (nmT nP_checkIndex) ∈ gtb := tbI 496 (by decide +kernel)
theorem mlX_init : ML nX_init 0 := ⟨tbI 25 (by decide +kernel), tbI 1 (by decide +kernel), ⟨by decide +kernel, by decide +kernel, by decide +kernel⟩, by decide +kernel⟩
theorem imX_init : Cond.instanceMethod (nmT nX_init) ∈ gtb := tbI 24 (by decide +kernel)
theorem mlX_wind : ML nX_wind 3 := ⟨tbI 394 (by decide +kernel), tbI 1 (by decide +kernel), ⟨by decide +kernel, by decide +kernel, by decide +kernel⟩, by decide +kernel⟩
theorem imX_wind : Cond.instanceMethod (nmT nX_wind) ∈ gtb := tbI 392 (by decide +kernel)
theorem seX_wind : Cond.selects (nmT nX_wind).cls (nmT nX_wind) (nmT nX_wind) ∈ gtb := tbI 393 (by decide +kernel)
theorem mlX_village : ML nX_village 2 := ⟨tbI 405 (by decide +kernel), tbI 1 (by decide +kernel), ⟨by decide +kernel, by decide +kernel, by decide +kernel⟩, by decide +kernel⟩
theorem imX_village : Cond.instanceMethod (nmT nX_village) ∈ gtb := tbI 403 (by decide +kernel)
theorem seX_village : Cond.selects (nmT nX_village).cls (nmT nX_village) (nmT nX_village) ∈ gtb := tbI 404 (by decide +kernel)
theorem mlX_way : ML nX_way 3 := ⟨tbI 416 (by decide +kernel), tbI 1 (by decide +kernel), ⟨by decide +kernel, by decide +kernel, by decide +kernel⟩, by decide +kernel⟩
theorem imX_way : Cond.instanceMethod (nmT nX_way) ∈ gtb := tbI 414 (by decide +kernel)
theorem seX_way : Cond.selects (nmT nX_way).cls (nmT nX_way) (nmT nX_way) ∈ gtb := tbI 415 (by decide +kernel)
theorem mlX_feed : ML nX_feed 5 := ⟨tbI 428 (by decide +kernel), tbI 1 (by decide +kernel), ⟨by decide +kernel, by decide +kernel, by decide +kernel⟩, by decide +kernel⟩
theorem imX_feed : Cond.instanceMethod (nmT nX_feed) ∈ gtb := tbI 426 (by decide +kernel)
theorem seX_feed : Cond.selects (nmT nX_feed).cls (nmT nX_feed) (nmT nX_feed) ∈ gtb := tbI 427 (by decide +kernel)
theorem mlX_feedFour : ML nX_feedFour 1 := ⟨tbI 432 (by decide +kernel), tbI 1 (by decide +kernel), ⟨by decide +kernel, by decide +kernel, by decide +kernel⟩, by decide +kernel⟩
theorem imX_feedFour : Cond.instanceMethod (nmT nX_feedFour) ∈ gtb := tbI 431 (by decide +kernel)
theorem seX_feedFour : Cond.selects (nmT nX_feedFour).cls (nmT nX_feedFour) (nmT nX_feedFour) ∈ gtb := tbS 0 (by decide +kernel)
theorem mlX_end : ML nX_end 1 := ⟨tbI 436 (by decide +kernel), tbI 1 (by decide +kernel), ⟨by decide +kernel, by decide +kernel, by decide +kernel⟩, by decide +kernel⟩
theorem imX_end : Cond.instanceMethod (nmT nX_end) ∈ gtb := tbI 434 (by decide +kernel)
theorem seX_end : Cond.selects (nmT nX_end).cls (nmT nX_end) (nmT nX_end) ∈ gtb := tbI 435 (by decide +kernel)
theorem mlX_text : ML nX_text 0 := ⟨tbI 440 (by decide +kernel), tbI 1 (by decide +kernel), ⟨by decide +kernel, by decide +kernel, by decide +kernel⟩, by decide +kernel⟩
theorem imX_text : Cond.instanceMethod (nmT nX_text) ∈ gtb := tbI 438 (by decide +kernel)
theorem seX_text : Cond.selects (nmT nX_text).cls (nmT nX_text) (nmT nX_text) ∈ gtb := tbI 439 (by decide +kernel)
theorem mlX_fault : ML nX_fault 1 := ⟨tbI 653 (by decide +kernel), tbI 1 (by decide +kernel), ⟨by decide +kernel, by decide +kernel, by decide +kernel⟩, by decide +kernel⟩
theorem imX_fault : Cond.instanceMethod (nmT nX_fault) ∈ gtb := tbI 651 (by decide +kernel)
theorem seX_fault : Cond.selects (nmT nX_fault).cls (nmT nX_fault) (nmT nX_fault) ∈ gtb := tbI 652 (by decide +kernel)
theorem mlX_by : ML nX_by 1 := ⟨tbI 657 (by decide +kernel), tbI 1 (by decide +kernel), ⟨by decide +kernel, by decide +kernel, by decide +kernel⟩, by decide +kernel⟩
theorem imX_by : Cond.instanceMethod (nmT nX_by) ∈ gtb := tbI 655 (by decide +kernel)
theorem seX_by : Cond.selects (nmT nX_by).cls (nmT nX_by) (nmT nX_by) ∈ gtb := tbI 656 (by decide +kernel)
theorem mlX_pay : ML nX_pay 3 := ⟨tbI 665 (by decide +kernel), tbI 1 (by decide +kernel), ⟨by decide +kernel, by decide +kernel, by decide +kernel⟩, by decide +kernel⟩
theorem imX_pay : Cond.instanceMethod (nmT nX_pay) ∈ gtb := tbI 663 (by decide +kernel)
theorem seX_pay : Cond.selects (nmT nX_pay).cls (nmT nX_pay) (nmT nX_pay) ∈ gtb := tbI 664 (by decide +kernel)
theorem mlX_merge : ML nX_merge 2 := ⟨tbI 697 (by decide +kernel), tbI 1 (by decide +kernel), ⟨by decide +kernel, by decide +kernel, by decide +kernel⟩, by decide +kernel⟩
theorem imX_merge : Cond.instanceMethod (nmT nX_merge) ∈ gtb := tbI 695 (by decide +kernel)
theorem seX_merge : Cond.selects (nmT nX_merge).cls (nmT nX_merge) (nmT nX_merge) ∈ gtb := tbI 696 (by decide +kernel)
theorem mlX_day : ML nX_day 1 := ⟨tbI 717 (by decide +kernel), tbI 1 (by decide +kernel), ⟨by decide +kernel, by decide +kernel, by decide +kernel⟩, by decide +kernel⟩
theorem imX_day : Cond.instanceMethod (nmT nX_day) ∈ gtb := tbI 715 (by decide +kernel)
theorem seX_day : Cond.selects (nmT nX_day).cls (nmT nX_day) (nmT nX_day) ∈ gtb := tbI 716 (by decide +kernel)
theorem mlX_played : ML nX_played 1 := ⟨tbI 819 (by decide +kernel), tbI 1 (by decide +kernel), ⟨by decide +kernel, by decide +kernel, by decide +kernel⟩, by decide +kernel⟩
theorem imX_played : Cond.instanceMethod (nmT nX_played) ∈ gtb := tbI 817 (by decide +kernel)
theorem seX_played : Cond.selects (nmT nX_played).cls (nmT nX_played) (nmT nX_played) ∈ gtb := tbI 818 (by decide +kernel)
theorem mlX_years : ML nX_years 2 := ⟨tbI 838 (by decide +kernel), tbI 1 (by decide +kernel), ⟨by decide +kernel, by decide +kernel, by decide +kernel⟩, by decide +kernel⟩
theorem imX_years : Cond.instanceMethod (nmT nX_years) ∈ gtb := tbI 836 (by decide +kernel)
theorem seX_years : Cond.selects (nmT nX_years).cls (nmT nX_years) (nmT nX_years) ∈ gtb := tbI 837 (by decide +kernel)
theorem mlX_undo : ML nX_undo 0 := ⟨tbI 854 (by decide +kernel), tbI 1 (by decide +kernel), ⟨by decide +kernel, by decide +kernel, by decide +kernel⟩, by decide +kernel⟩
theorem imX_undo : Cond.instanceMethod (nmT nX_undo) ∈ gtb := tbI 852 (by decide +kernel)
theorem seX_undo : Cond.selects (nmT nX_undo).cls (nmT nX_undo) (nmT nX_undo) ∈ gtb := tbI 853 (by decide +kernel)
theorem mlX_ofWind : ML nX_ofWind 2 := ⟨tbI 862 (by decide +kernel), tbI 1 (by decide +kernel), ⟨by decide +kernel, by decide +kernel, by decide +kernel⟩, by decide +kernel⟩
theorem imX_ofWind : Cond.instanceMethod (nmT nX_ofWind) ∈ gtb := tbI 860 (by decide +kernel)
theorem seX_ofWind : Cond.selects (nmT nX_ofWind).cls (nmT nX_ofWind) (nmT nX_ofWind) ∈ gtb := tbI 861 (by decide +kernel)
theorem mlX_ofVillage : ML nX_ofVillage 2 := ⟨tbI 870 (by decide +kernel), tbI 1 (by decide +kernel), ⟨by decide +kernel, by decide +kernel, by decide +kernel⟩, by decide +kernel⟩
theorem imX_ofVillage : Cond.instanceMethod (nmT nX_ofVillage) ∈ gtb := tbI 868 (by decide +kernel)
theorem seX_ofVillage : Cond.selects (nmT nX_ofVillage).cls (nmT nX_ofVillage) (nmT nX_ofVillage) ∈ gtb := tbI 869 (by decide +kernel)
theorem mlX_takes : ML nX_takes 3 := ⟨tbI 876 (by decide +kernel), tbI 1 (by decide +kernel), ⟨by decide +kernel, by decide +kernel, by decide +kernel⟩, by decide +kernel⟩
theorem imX_takes : Cond.instanceMethod (nmT nX_takes) ∈ gtb := tbI 874 (by decide +kernel)
theorem seX_takes : Cond.selects (nmT nX_takes).cls (nmT nX_takes) (nmT nX_takes) ∈ gtb := tbI 875 (by decide +kernel)
theorem mlX_catches : ML nX_catches 3 := ⟨tbI 884 (by decide +kernel), tbI 1 (by decide +kernel), ⟨by decide +kernel, by decide +kernel, by decide +kernel⟩, by decide +kernel⟩
theorem imX_catches : Cond.instanceMethod (nmT nX_catches) ∈ gtb := tbI 882 (by decide +kernel)
theorem seX_catches : Cond.selects (nmT nX_catches).cls (nmT nX_catches) (nmT nX_catches) ∈ gtb := tbI 883 (by decide +kernel)
theorem mlX_isForce : ML nX_isForce 1 := ⟨tbI 879 (by decide +kernel), tbI 1 (by decide +kernel), ⟨by decide +kernel, by decide +kernel, by decide +kernel⟩, by decide +kernel⟩
theorem stX_isForce : Cond.static (nmT nX_isForce) ∈ gtb := tbI 878 (by decide +kernel)
theorem mlX_isFar : ML nX_isFar 1 := ⟨tbI 910 (by decide +kernel), tbI 1 (by decide +kernel), ⟨by decide +kernel, by decide +kernel, by decide +kernel⟩, by decide +kernel⟩
theorem stX_isFar : Cond.static (nmT nX_isFar) ∈ gtb := tbI 909 (by decide +kernel)
theorem mlX_is : ML nX_is 1 := ⟨tbI 888 (by decide +kernel), tbI 1 (by decide +kernel), ⟨by decide +kernel, by decide +kernel, by decide +kernel⟩, by decide +kernel⟩
theorem imX_is : Cond.instanceMethod (nmT nX_is) ∈ gtb := tbI 886 (by decide +kernel)
theorem seX_is : Cond.selects (nmT nX_is).cls (nmT nX_is) (nmT nX_is) ∈ gtb := tbI 887 (by decide +kernel)
theorem mlX_book : ML nX_book 2 := ⟨tbI 892 (by decide +kernel), tbI 1 (by decide +kernel), ⟨by decide +kernel, by decide +kernel, by decide +kernel⟩, by decide +kernel⟩
theorem imX_book : Cond.instanceMethod (nmT nX_book) ∈ gtb := tbI 890 (by decide +kernel)
theorem seX_book : Cond.selects (nmT nX_book).cls (nmT nX_book) (nmT nX_book) ∈ gtb := tbI 891 (by decide +kernel)
theorem mlX_foretold : ML nX_foretold 1 := ⟨tbI 907 (by decide +kernel), tbI 1 (by decide +kernel), ⟨by decide +kernel, by decide +kernel, by decide +kernel⟩, by decide +kernel⟩
theorem imX_foretold : Cond.instanceMethod (nmT nX_foretold) ∈ gtb := tbI 905 (by decide +kernel)
theorem seX_foretold : Cond.selects (nmT nX_foretold).cls (nmT nX_foretold) (nmT nX_foretold) ∈ gtb := tbI 906 (by decide +kernel)
theorem mlX_purse : ML nX_purse 2 := ⟨tbI 939 (by decide +kernel), tbI 1 (by decide +kernel), ⟨by decide +kernel, by decide +kernel, by decide +kernel⟩, by decide +kernel⟩
theorem imX_purse : Cond.instanceMethod (nmT nX_purse) ∈ gtb := tbI 937 (by decide +kernel)
theorem seX_purse : Cond.selects (nmT nX_purse).cls (nmT nX_purse) (nmT nX_purse) ∈ gtb := tbI 938 (by decide +kernel)
theorem mlX_owed : ML nX_owed 2 := ⟨tbI 947 (by decide +kernel), tbI 1 (by decide +kernel), ⟨by decide +kernel, by decide +kernel, by decide +kernel⟩, by decide +kernel⟩
theorem imX_owed : Cond.instanceMethod (nmT nX_owed) ∈ gtb := tbI 945 (by decide +kernel)
theorem seX_owed : Cond.selects (nmT nX_owed).cls (nmT nX_owed) (nmT nX_owed) ∈ gtb := tbI 946 (by decide +kernel)
theorem mlX_arrears : ML nX_arrears 0 := ⟨tbI 951 (by decide +kernel), tbI 1 (by decide +kernel), ⟨by decide +kernel, by decide +kernel, by decide +kernel⟩, by decide +kernel⟩
theorem imX_arrears : Cond.instanceMethod (nmT nX_arrears) ∈ gtb := tbI 949 (by decide +kernel)
theorem seX_arrears : Cond.selects (nmT nX_arrears).cls (nmT nX_arrears) (nmT nX_arrears) ∈ gtb := tbI 950 (by decide +kernel)
theorem mlX_broke : ML nX_broke 1 := ⟨tbI 972 (by decide +kernel), tbI 1 (by decide +kernel), ⟨by decide +kernel, by decide +kernel, by decide +kernel⟩, by decide +kernel⟩
theorem imX_broke : Cond.instanceMethod (nmT nX_broke) ∈ gtb := tbI 970 (by decide +kernel)
theorem seX_broke : Cond.selects (nmT nX_broke).cls (nmT nX_broke) (nmT nX_broke) ∈ gtb := tbI 971 (by decide +kernel)
theorem mlX_whose : ML nX_whose 1 := ⟨tbI 980 (by decide +kernel), tbI 1 (by decide +kernel), ⟨by decide +kernel, by decide +kernel, by decide +kernel⟩, by decide +kernel⟩
theorem imX_whose : Cond.instanceMethod (nmT nX_whose) ∈ gtb := tbI 978 (by decide +kernel)
theorem seX_whose : Cond.selects (nmT nX_whose).cls (nmT nX_whose) (nmT nX_whose) ∈ gtb := tbI 979 (by decide +kernel)
theorem mlX_odds : ML nX_odds 3 := ⟨tbI 988 (by decide +kernel), tbI 1 (by decide +kernel), ⟨by decide +kernel, by decide +kernel, by decide +kernel⟩, by decide +kernel⟩
theorem imX_odds : Cond.instanceMethod (nmT nX_odds) ∈ gtb := tbI 986 (by decide +kernel)
theorem seX_odds : Cond.selects (nmT nX_odds).cls (nmT nX_odds) (nmT nX_odds) ∈ gtb := tbI 987 (by decide +kernel)
theorem mlX_least : ML nX_least 3 := ⟨tbI 1003 (by decide +kernel), tbI 1 (by decide +kernel), ⟨by decide +kernel, by decide +kernel, by decide +kernel⟩, by decide +kernel⟩
theorem imX_least : Cond.instanceMethod (nmT nX_least) ∈ gtb := tbI 1001 (by decide +kernel)
theorem seX_least : Cond.selects (nmT nX_least).cls (nmT nX_least) (nmT nX_least) ∈ gtb := tbI 1002 (by decide +kernel)
theorem mlX_share : ML nX_share 5 := ⟨tbI 1019 (by decide +kernel), tbI 1 (by decide +kernel), ⟨by decide +kernel, by decide +kernel, by decide +kernel⟩, by decide +kernel⟩
theorem imX_share : Cond.instanceMethod (nmT nX_share) ∈ gtb := tbI 1017 (by decide +kernel)
theorem seX_share : Cond.selects (nmT nX_share).cls (nmT nX_share) (nmT nX_share) ∈ gtb := tbI 1018 (by decide +kernel)
theorem mlX_voyage : ML nX_voyage 3 := ⟨tbI 1045 (by decide +kernel), tbI 1 (by decide +kernel), ⟨by decide +kernel, by decide +kernel, by decide +kernel⟩, by decide +kernel⟩
theorem imX_voyage : Cond.instanceMethod (nmT nX_voyage) ∈ gtb := tbI 1043 (by decide +kernel)
theorem seX_voyage : Cond.selects (nmT nX_voyage).cls (nmT nX_voyage) (nmT nX_voyage) ∈ gtb := tbI 1044 (by decide +kernel)
theorem mlX_took : ML nX_took 2 := ⟨tbI 1077 (by decide +kernel), tbI 1 (by decide +kernel), ⟨by decide +kernel, by decide +kernel, by decide +kernel⟩, by decide +kernel⟩
theorem imX_took : Cond.instanceMethod (nmT nX_took) ∈ gtb := tbI 1075 (by decide +kernel)
theorem seX_took : Cond.selects (nmT nX_took).cls (nmT nX_took) (nmT nX_took) ∈ gtb := tbI 1076 (by decide +kernel)
theorem mlX_whoseWind : ML nX_whoseWind 0 := ⟨tbI 1081 (by decide +kernel), tbI 1 (by decide +kernel), ⟨by decide +kernel, by decide +kernel, by decide +kernel⟩, by decide +kernel⟩
theorem imX_whoseWind : Cond.instanceMethod (nmT nX_whoseWind) ∈ gtb := tbI 1079 (by decide +kernel)
theorem seX_whoseWind : Cond.selects (nmT nX_whoseWind).cls (nmT nX_whoseWind) (nmT nX_whoseWind) ∈ gtb := tbI 1080 (by decide +kernel)
theorem mlX_strengths : ML nX_strengths 1 := ⟨tbI 1097 (by decide +kernel), tbI 1 (by decide +kernel), ⟨by decide +kernel, by decide +kernel, by decide +kernel⟩, by decide +kernel⟩
theorem imX_strengths : Cond.instanceMethod (nmT nX_strengths) ∈ gtb := tbI 1095 (by decide +kernel)
theorem seX_strengths : Cond.selects (nmT nX_strengths).cls (nmT nX_strengths) (nmT nX_strengths) ∈ gtb := tbI 1096 (by decide +kernel)
theorem mlX_vane : ML nX_vane 0 := ⟨tbI 1102 (by decide +kernel), tbI 1 (by decide +kernel), ⟨by decide +kernel, by decide +kernel, by decide +kernel⟩, by decide +kernel⟩
theorem imX_vane : Cond.instanceMethod (nmT nX_vane) ∈ gtb := tbI 1100 (by decide +kernel)
theorem seX_vane : Cond.selects (nmT nX_vane).cls (nmT nX_vane) (nmT nX_vane) ∈ gtb := tbI 1101 (by decide +kernel)
theorem mlX_sail : ML nX_sail 1 := ⟨tbI 1118 (by decide +kernel), tbI 1 (by decide +kernel), ⟨by decide +kernel, by decide +kernel, by decide +kernel⟩, by decide +kernel⟩
theorem imX_sail : Cond.instanceMethod (nmT nX_sail) ∈ gtb := tbI 1116 (by decide +kernel)
theorem seX_sail : Cond.selects (nmT nX_sail).cls (nmT nX_sail) (nmT nX_sail) ∈ gtb := tbI 1117 (by decide +kernel)
theorem mlX_sails : ML nX_sails 2 := ⟨tbI 1122 (by decide +kernel), tbI 1 (by decide +kernel), ⟨by decide +kernel, by decide +kernel, by decide +kernel⟩, by decide +kernel⟩
theorem imX_sails : Cond.instanceMethod (nmT nX_sails) ∈ gtb := tbI 1120 (by decide +kernel)
theorem seX_sails : Cond.selects (nmT nX_sails).cls (nmT nX_sails) (nmT nX_sails) ∈ gtb := tbI 1121 (by decide +kernel)
theorem mlX_sure : ML nX_sure 3 := ⟨tbI 1146 (by decide +kernel), tbI 1 (by decide +kernel), ⟨by decide +kernel, by decide +kernel, by decide +kernel⟩, by decide +kernel⟩
theorem imX_sure : Cond.instanceMethod (nmT nX_sure) ∈ gtb := tbI 1144 (by decide +kernel)
theorem seX_sure : Cond.selects (nmT nX_sure).cls (nmT nX_sure) (nmT nX_sure) ∈ gtb := tbI 1145 (by decide +kernel)
theorem mlX_kind : ML nX_kind 1 := ⟨tbI 1159 (by decide +kernel), tbI 1 (by decide +kernel), ⟨by decide +kernel, by decide +kernel, by decide +kernel⟩, by decide +kernel⟩
theorem imX_kind : Cond.instanceMethod (nmT nX_kind) ∈ gtb := tbI 1157 (by decide +kernel)
theorem seX_kind : Cond.selects (nmT nX_kind).cls (nmT nX_kind) (nmT nX_kind) ∈ gtb := tbI 1158 (by decide +kernel)
theorem mlX_inKind : ML nX_inKind 2 := ⟨tbI 1163 (by decide +kernel), tbI 1 (by decide +kernel), ⟨by decide +kernel, by decide +kernel, by decide +kernel⟩, by decide +kernel⟩
theorem imX_inKind : Cond.instanceMethod (nmT nX_inKind) ∈ gtb := tbI 1161 (by decide +kernel)
theorem seX_inKind : Cond.selects (nmT nX_inKind).cls (nmT nX_inKind) (nmT nX_inKind) ∈ gtb := tbI 1162 (by decide +kernel)
theorem mlX_calms : ML nX_calms 2 := ⟨tbI 1175 (by decide +kernel), tbI 1 (by decide +kernel), ⟨by decide +kernel, by decide +kernel, by decide +kernel⟩, by decide +kernel⟩
theorem imX_calms : Cond.instanceMethod (nmT nX_calms) ∈ gtb := tbI 1173 (by decide +kernel)
theorem seX_calms : Cond.selects (nmT nX_calms).cls (nmT nX_calms) (nmT nX_calms) ∈ gtb := tbI 1174 (by decide +kernel)
theorem mlX_strongest : ML nX_strongest 0 := ⟨tbI 1184 (by decide +kernel), tbI 1 (by decide +kernel), ⟨by decide +kernel, by decide +kernel, by decide +kernel⟩, by decide +kernel⟩
theorem imX_strongest : Cond.instanceMethod (nmT nX_strongest) ∈ gtb := tbI 1182 (by decide +kernel)
theorem seX_strongest : Cond.selects (nmT nX_strongest).cls (nmT nX_strongest) (nmT nX_strongest) ∈ gtb := tbI 1183 (by decide +kernel)
theorem mlX_richest : ML nX_richest 0 := ⟨tbI 1189 (by decide +kernel), tbI 1 (by decide +kernel), ⟨by decide +kernel, by decide +kernel, by decide +kernel⟩, by decide +kernel⟩
theorem imX_richest : Cond.instanceMethod (nmT nX_richest) ∈ gtb := tbI 1187 (by decide +kernel)
theorem seX_richest : Cond.selects (nmT nX_richest).cls (nmT nX_richest) (nmT nX_richest) ∈ gtb := tbI 1188 (by decide +kernel)
theorem mlX_often : ML nX_often 1 := ⟨tbI 1193 (by decide +kernel), tbI 1 (by decide +kernel), ⟨by decide +kernel, by decide +kernel, by decide +kernel⟩, by decide +kernel⟩
theorem imX_often : Cond.instanceMethod (nmT nX_often) ∈ gtb := tbI 1191 (by decide +kernel)
theorem seX_often : Cond.selects (nmT nX_often).cls (nmT nX_often) (nmT nX_often) ∈ gtb := tbI 1192 (by decide +kernel)
theorem mlX_worstDay : ML nX_worstDay 0 := ⟨tbI 1197 (by decide +kernel), tbI 1 (by decide +kernel), ⟨by decide +kernel, by decide +kernel, by decide +kernel⟩, by decide +kernel⟩
theorem imX_worstDay : Cond.instanceMethod (nmT nX_worstDay) ∈ gtb := tbI 1195 (by decide +kernel)
theorem seX_worstDay : Cond.selects (nmT nX_worstDay).cls (nmT nX_worstDay) (nmT nX_worstDay) ∈ gtb := tbI 1196 (by decide +kernel)
theorem mlX_image : ML nX_image 0 := ⟨tbI 1201 (by decide +kernel), tbI 1 (by decide +kernel), ⟨by decide +kernel, by decide +kernel, by decide +kernel⟩, by decide +kernel⟩
theorem imX_image : Cond.instanceMethod (nmT nX_image) ∈ gtb := tbI 1199 (by decide +kernel)
theorem seX_image : Cond.selects (nmT nX_image).cls (nmT nX_image) (nmT nX_image) ∈ gtb := tbI 1200 (by decide +kernel)
theorem mlX_back : ML nX_back 0 := ⟨tbI 1209 (by decide +kernel), tbI 1 (by decide +kernel), ⟨by decide +kernel, by decide +kernel, by decide +kernel⟩, by decide +kernel⟩
theorem imX_back : Cond.instanceMethod (nmT nX_back) ∈ gtb := tbI 1207 (by decide +kernel)
theorem seX_back : Cond.selects (nmT nX_back).cls (nmT nX_back) (nmT nX_back) ∈ gtb := tbI 1208 (by decide +kernel)
theorem mlX_about : ML nX_about 1 := ⟨tbI 1213 (by decide +kernel), tbI 1 (by decide +kernel), ⟨by decide +kernel, by decide +kernel, by decide +kernel⟩, by decide +kernel⟩
theorem imX_about : Cond.instanceMethod (nmT nX_about) ∈ gtb := tbI 1211 (by decide +kernel)
theorem seX_about : Cond.selects (nmT nX_about).cls (nmT nX_about) (nmT nX_about) ∈ gtb := tbI 1212 (by decide +kernel)
theorem mlM_init : ML nM_init 0 := ⟨tbI 1218 (by decide +kernel), tbI 13 (by decide +kernel), ⟨by decide +kernel, by decide +kernel, by decide +kernel⟩, by decide +kernel⟩
theorem imM_init : Cond.instanceMethod (nmT nM_init) ∈ gtb := tbI 1217 (by decide +kernel)
theorem mlM_copy : ML nM_copy 2 := ⟨tbI 1222 (by decide +kernel), tbI 13 (by decide +kernel), ⟨by decide +kernel, by decide +kernel, by decide +kernel⟩, by decide +kernel⟩
theorem stM_copy : Cond.static (nmT nM_copy) ∈ gtb := tbI 1221 (by decide +kernel)
theorem mlM_isIn : ML nM_isIn 3 := ⟨tbI 1345 (by decide +kernel), tbI 13 (by decide +kernel), ⟨by decide +kernel, by decide +kernel, by decide +kernel⟩, by decide +kernel⟩
theorem stM_isIn : Cond.static (nmT nM_isIn) ∈ gtb := tbI 1344 (by decide +kernel)
theorem mlM_cut : ML nM_cut 3 := ⟨tbI 1580 (by decide +kernel), tbI 13 (by decide +kernel), ⟨by decide +kernel, by decide +kernel, by decide +kernel⟩, by decide +kernel⟩
theorem stM_cut : Cond.static (nmT nM_cut) ∈ gtb := tbI 1579 (by decide +kernel)
theorem mlM_has : ML nM_has 2 := ⟨tbI 1443 (by decide +kernel), tbI 13 (by decide +kernel), ⟨by decide +kernel, by decide +kernel, by decide +kernel⟩, by decide +kernel⟩
theorem stM_has : Cond.static (nmT nM_has) ∈ gtb := tbI 1442 (by decide +kernel)
theorem mlM_bits : ML nM_bits 1 := ⟨tbI 1839 (by decide +kernel), tbI 13 (by decide +kernel), ⟨by decide +kernel, by decide +kernel, by decide +kernel⟩, by decide +kernel⟩
theorem stM_bits : Cond.static (nmT nM_bits) ∈ gtb := tbI 1838 (by decide +kernel)
theorem mlM_isWind : ML nM_isWind 1 := ⟨tbI 1561 (by decide +kernel), tbI 13 (by decide +kernel), ⟨by decide +kernel, by decide +kernel, by decide +kernel⟩, by decide +kernel⟩
theorem imM_isWind : Cond.instanceMethod (nmT nM_isWind) ∈ gtb := tbI 1560 (by decide +kernel)
theorem seM_isWind : Cond.selects (nmT nM_isWind).cls (nmT nM_isWind) (nmT nM_isWind) ∈ gtb := tbS 85 (by decide +kernel)
theorem mlM_isVillage : ML nM_isVillage 1 := ⟨tbI 1373 (by decide +kernel), tbI 13 (by decide +kernel), ⟨by decide +kernel, by decide +kernel, by decide +kernel⟩, by decide +kernel⟩
theorem imM_isVillage : Cond.instanceMethod (nmT nM_isVillage) ∈ gtb := tbI 1372 (by decide +kernel)
theorem seM_isVillage : Cond.selects (nmT nM_isVillage).cls (nmT nM_isVillage) (nmT nM_isVillage) ∈ gtb := tbS 53 (by decide +kernel)
theorem mlM_get : ML nM_get 2 := ⟨tbI 1357 (by decide +kernel), tbI 13 (by decide +kernel), ⟨by decide +kernel, by decide +kernel, by decide +kernel⟩, by decide +kernel⟩
theorem imM_get : Cond.instanceMethod (nmT nM_get) ∈ gtb := tbI 1356 (by decide +kernel)
theorem seM_get : Cond.selects (nmT nM_get).cls (nmT nM_get) (nmT nM_get) ∈ gtb := tbS 51 (by decide +kernel)
theorem mlM_put : ML nM_put 3 := ⟨tbI 1349 (by decide +kernel), tbI 13 (by decide +kernel), ⟨by decide +kernel, by decide +kernel, by decide +kernel⟩, by decide +kernel⟩
theorem imM_put : Cond.instanceMethod (nmT nM_put) ∈ gtb := tbI 1348 (by decide +kernel)
theorem seM_put : Cond.selects (nmT nM_put).cls (nmT nM_put) (nmT nM_put) ∈ gtb := tbS 49 (by decide +kernel)
theorem mlM_of : ML nM_of 2 := ⟨tbI 1545 (by decide +kernel), tbI 13 (by decide +kernel), ⟨by decide +kernel, by decide +kernel, by decide +kernel⟩, by decide +kernel⟩
theorem imM_of : Cond.instanceMethod (nmT nM_of) ∈ gtb := tbI 1544 (by decide +kernel)
theorem seM_of : Cond.selects (nmT nM_of).cls (nmT nM_of) (nmT nM_of) ∈ gtb := tbS 82 (by decide +kernel)
theorem mlM_lay : ML nM_lay 3 := ⟨tbI 1365 (by decide +kernel), tbI 13 (by decide +kernel), ⟨by decide +kernel, by decide +kernel, by decide +kernel⟩, by decide +kernel⟩
theorem imM_lay : Cond.instanceMethod (nmT nM_lay) ∈ gtb := tbI 1364 (by decide +kernel)
theorem seM_lay : Cond.selects (nmT nM_lay).cls (nmT nM_lay) (nmT nM_lay) ∈ gtb := tbS 52 (by decide +kernel)
theorem mlM_isHere : ML nM_isHere 1 := ⟨tbI 1557 (by decide +kernel), tbI 13 (by decide +kernel), ⟨by decide +kernel, by decide +kernel, by decide +kernel⟩, by decide +kernel⟩
theorem imM_isHere : Cond.instanceMethod (nmT nM_isHere) ∈ gtb := tbI 1556 (by decide +kernel)
theorem seM_isHere : Cond.selects (nmT nM_isHere).cls (nmT nM_isHere) (nmT nM_isHere) ∈ gtb := tbS 84 (by decide +kernel)
theorem mlM_wind : ML nM_wind 3 := ⟨tbI 1342 (by decide +kernel), tbI 13 (by decide +kernel), ⟨by decide +kernel, by decide +kernel, by decide +kernel⟩, by decide +kernel⟩
theorem imM_wind : Cond.instanceMethod (nmT nM_wind) ∈ gtb := tbI 1340 (by decide +kernel)
theorem seM_wind : Cond.selects (nmT nM_wind).cls (nmT nM_wind) (nmT nM_wind) ∈ gtb := tbI 1341 (by decide +kernel)
theorem mlM_begin : ML nM_begin 1 := ⟨tbI 1353 (by decide +kernel), tbI 13 (by decide +kernel), ⟨by decide +kernel, by decide +kernel, by decide +kernel⟩, by decide +kernel⟩
theorem imM_begin : Cond.instanceMethod (nmT nM_begin) ∈ gtb := tbI 1352 (by decide +kernel)
theorem seM_begin : Cond.selects (nmT nM_begin).cls (nmT nM_begin) (nmT nM_begin) ∈ gtb := tbS 50 (by decide +kernel)
theorem mlM_village : ML nM_village 2 := ⟨tbI 1361 (by decide +kernel), tbI 13 (by decide +kernel), ⟨by decide +kernel, by decide +kernel, by decide +kernel⟩, by decide +kernel⟩
theorem imM_village : Cond.instanceMethod (nmT nM_village) ∈ gtb := tbI 1359 (by decide +kernel)
theorem seM_village : Cond.selects (nmT nM_village).cls (nmT nM_village) (nmT nM_village) ∈ gtb := tbI 1360 (by decide +kernel)
theorem mlM_way : ML nM_way 3 := ⟨tbI 1369 (by decide +kernel), tbI 13 (by decide +kernel), ⟨by decide +kernel, by decide +kernel, by decide +kernel⟩, by decide +kernel⟩
theorem imM_way : Cond.instanceMethod (nmT nM_way) ∈ gtb := tbI 1367 (by decide +kernel)
theorem seM_way : Cond.selects (nmT nM_way).cls (nmT nM_way) (nmT nM_way) ∈ gtb := tbI 1368 (by decide +kernel)
theorem mlM_four : ML nM_four 1 := ⟨tbI 1381 (by decide +kernel), tbI 13 (by decide +kernel), ⟨by decide +kernel, by decide +kernel, by decide +kernel⟩, by decide +kernel⟩
theorem imM_four : Cond.instanceMethod (nmT nM_four) ∈ gtb := tbI 1380 (by decide +kernel)
theorem seM_four : Cond.selects (nmT nM_four).cls (nmT nM_four) (nmT nM_four) ∈ gtb := tbS 54 (by decide +kernel)
theorem mlM_feed : ML nM_feed 5 := ⟨tbI 1377 (by decide +kernel), tbI 13 (by decide +kernel), ⟨by decide +kernel, by decide +kernel, by decide +kernel⟩, by decide +kernel⟩
theorem imM_feed : Cond.instanceMethod (nmT nM_feed) ∈ gtb := tbI 1375 (by decide +kernel)
theorem seM_feed : Cond.selects (nmT nM_feed).cls (nmT nM_feed) (nmT nM_feed) ∈ gtb := tbI 1376 (by decide +kernel)
theorem mlM_end : ML nM_end 1 := ⟨tbI 1385 (by decide +kernel), tbI 13 (by decide +kernel), ⟨by decide +kernel, by decide +kernel, by decide +kernel⟩, by decide +kernel⟩
theorem imM_end : Cond.instanceMethod (nmT nM_end) ∈ gtb := tbI 1383 (by decide +kernel)
theorem seM_end : Cond.selects (nmT nM_end).cls (nmT nM_end) (nmT nM_end) ∈ gtb := tbI 1384 (by decide +kernel)
theorem mlM_byteAt : ML nM_byteAt 1 := ⟨tbI 1401 (by decide +kernel), tbI 13 (by decide +kernel), ⟨by decide +kernel, by decide +kernel, by decide +kernel⟩, by decide +kernel⟩
theorem imM_byteAt : Cond.instanceMethod (nmT nM_byteAt) ∈ gtb := tbI 1400 (by decide +kernel)
theorem seM_byteAt : Cond.selects (nmT nM_byteAt).cls (nmT nM_byteAt) (nmT nM_byteAt) ∈ gtb := tbS 57 (by decide +kernel)
theorem mlM_isLetterByte : ML nM_isLetterByte 1 := ⟨tbI 1408 (by decide +kernel), tbI 13 (by decide +kernel), ⟨by decide +kernel, by decide +kernel, by decide +kernel⟩, by decide +kernel⟩
theorem stM_isLetterByte : Cond.static (nmT nM_isLetterByte) ∈ gtb := tbI 1407 (by decide +kernel)
theorem mlM_isFigure : ML nM_isFigure 1 := ⟨tbI 1404 (by decide +kernel), tbI 13 (by decide +kernel), ⟨by decide +kernel, by decide +kernel, by decide +kernel⟩, by decide +kernel⟩
theorem stM_isFigure : Cond.static (nmT nM_isFigure) ∈ gtb := tbI 1403 (by decide +kernel)
theorem mlM_isSign : ML nM_isSign 1 := ⟨tbI 1412 (by decide +kernel), tbI 13 (by decide +kernel), ⟨by decide +kernel, by decide +kernel, by decide +kernel⟩, by decide +kernel⟩
theorem stM_isSign : Cond.static (nmT nM_isSign) ∈ gtb := tbI 1411 (by decide +kernel)
theorem mlM_nextToken : ML nM_nextToken 0 := ⟨tbI 1397 (by decide +kernel), tbI 13 (by decide +kernel), ⟨by decide +kernel, by decide +kernel, by decide +kernel⟩, by decide +kernel⟩
theorem imM_nextToken : Cond.instanceMethod (nmT nM_nextToken) ∈ gtb := tbI 1396 (by decide +kernel)
theorem seM_nextToken : Cond.selects (nmT nM_nextToken).cls (nmT nM_nextToken) (nmT nM_nextToken) ∈ gtb := tbS 56 (by decide +kernel)
theorem mlM_w2 : ML nM_w2 2 := ⟨tbI 1432 (by decide +kernel), tbI 13 (by decide +kernel), ⟨by decide +kernel, by decide +kernel, by decide +kernel⟩, by decide +kernel⟩
theorem stM_w2 : Cond.static (nmT nM_w2) ∈ gtb := tbI 1431 (by decide +kernel)
theorem mlM_w3 : ML nM_w3 3 := ⟨tbI 1429 (by decide +kernel), tbI 13 (by decide +kernel), ⟨by decide +kernel, by decide +kernel, by decide +kernel⟩, by decide +kernel⟩
theorem stM_w3 : Cond.static (nmT nM_w3) ∈ gtb := tbI 1428 (by decide +kernel)
theorem mlM_w4 : ML nM_w4 4 := ⟨tbI 1426 (by decide +kernel), tbI 13 (by decide +kernel), ⟨by decide +kernel, by decide +kernel, by decide +kernel⟩, by decide +kernel⟩
theorem stM_w4 : Cond.static (nmT nM_w4) ∈ gtb := tbI 1425 (by decide +kernel)
theorem mlM_w5 : ML nM_w5 5 := ⟨tbI 1423 (by decide +kernel), tbI 13 (by decide +kernel), ⟨by decide +kernel, by decide +kernel, by decide +kernel⟩, by decide +kernel⟩
theorem stM_w5 : Cond.static (nmT nM_w5) ∈ gtb := tbI 1422 (by decide +kernel)
theorem mlM_w6 : ML nM_w6 6 := ⟨tbI 1450 (by decide +kernel), tbI 13 (by decide +kernel), ⟨by decide +kernel, by decide +kernel, by decide +kernel⟩, by decide +kernel⟩
theorem stM_w6 : Cond.static (nmT nM_w6) ∈ gtb := tbI 1449 (by decide +kernel)
theorem mlM_isWord : ML nM_isWord 1 := ⟨tbI 1436 (by decide +kernel), tbI 13 (by decide +kernel), ⟨by decide +kernel, by decide +kernel, by decide +kernel⟩, by decide +kernel⟩
theorem imM_isWord : Cond.instanceMethod (nmT nM_isWord) ∈ gtb := tbI 1435 (by decide +kernel)
theorem seM_isWord : Cond.selects (nmT nM_isWord).cls (nmT nM_isWord) (nmT nM_isWord) ∈ gtb := tbS 60 (by decide +kernel)
theorem mlM_emit : ML nM_emit 2 := ⟨tbI 1505 (by decide +kernel), tbI 13 (by decide +kernel), ⟨by decide +kernel, by decide +kernel, by decide +kernel⟩, by decide +kernel⟩
theorem imM_emit : Cond.instanceMethod (nmT nM_emit) ∈ gtb := tbI 1504 (by decide +kernel)
theorem seM_emit : Cond.selects (nmT nM_emit).cls (nmT nM_emit) (nmT nM_emit) ∈ gtb := tbS 75 (by decide +kernel)
theorem mlM_isLong : ML nM_isLong 2 := ⟨tbI 1440 (by decide +kernel), tbI 13 (by decide +kernel), ⟨by decide +kernel, by decide +kernel, by decide +kernel⟩, by decide +kernel⟩
theorem imM_isLong : Cond.instanceMethod (nmT nM_isLong) ∈ gtb := tbI 1439 (by decide +kernel)
theorem seM_isLong : Cond.selects (nmT nM_isLong).cls (nmT nM_isLong) (nmT nM_isLong) ∈ gtb := tbS 61 (by decide +kernel)
theorem mlM_nameOf : ML nM_nameOf 0 := ⟨tbI 1517 (by decide +kernel), tbI 13 (by decide +kernel), ⟨by decide +kernel, by decide +kernel, by decide +kernel⟩, by decide +kernel⟩
theorem imM_nameOf : Cond.instanceMethod (nmT nM_nameOf) ∈ gtb := tbI 1516 (by decide +kernel)
theorem seM_nameOf : Cond.selects (nmT nM_nameOf).cls (nmT nM_nameOf) (nmT nM_nameOf) ∈ gtb := tbS 78 (by decide +kernel)
theorem mlM_isOf : ML nM_isOf 1 := ⟨tbI 1521 (by decide +kernel), tbI 13 (by decide +kernel), ⟨by decide +kernel, by decide +kernel, by decide +kernel⟩, by decide +kernel⟩
theorem imM_isOf : Cond.instanceMethod (nmT nM_isOf) ∈ gtb := tbI 1520 (by decide +kernel)
theorem seM_isOf : Cond.selects (nmT nM_isOf).cls (nmT nM_isOf) (nmT nM_isOf) ∈ gtb := tbS 79 (by decide +kernel)
theorem mlM_rank : ML nM_rank 1 := ⟨tbI 1493 (by decide +kernel), tbI 13 (by decide +kernel), ⟨by decide +kernel, by decide +kernel, by decide +kernel⟩, by decide +kernel⟩
theorem stM_rank : Cond.static (nmT nM_rank) ∈ gtb := tbI 1492 (by decide +kernel)
theorem mlM_settle : ML nM_settle 1 := ⟨tbI 1501 (by decide +kernel), tbI 13 (by decide +kernel), ⟨by decide +kernel, by decide +kernel, by decide +kernel⟩, by decide +kernel⟩
theorem imM_settle : Cond.instanceMethod (nmT nM_settle) ∈ gtb := tbI 1500 (by decide +kernel)
theorem seM_settle : Cond.selects (nmT nM_settle).cls (nmT nM_settle) (nmT nM_settle) ∈ gtb := tbS 74 (by decide +kernel)
theorem mlM_isOpen : ML nM_isOpen 0 := ⟨tbI 1486 (by decide +kernel), tbI 13 (by decide +kernel), ⟨by decide +kernel, by decide +kernel, by decide +kernel⟩, by decide +kernel⟩
theorem imM_isOpen : Cond.instanceMethod (nmT nM_isOpen) ∈ gtb := tbI 1485 (by decide +kernel)
theorem seM_isOpen : Cond.selects (nmT nM_isOpen).cls (nmT nM_isOpen) (nmT nM_isOpen) ∈ gtb := tbS 71 (by decide +kernel)
theorem mlM_isCompared : ML nM_isCompared 0 := ⟨tbI 1490 (by decide +kernel), tbI 13 (by decide +kernel), ⟨by decide +kernel, by decide +kernel, by decide +kernel⟩, by decide +kernel⟩
theorem imM_isCompared : Cond.instanceMethod (nmT nM_isCompared) ∈ gtb := tbI 1489 (by decide +kernel)
theorem seM_isCompared : Cond.selects (nmT nM_isCompared).cls (nmT nM_isCompared) (nmT nM_isCompared) ∈ gtb := tbS 72 (by decide +kernel)
theorem mlM_isAskAhead : ML nM_isAskAhead 0 := ⟨tbI 1529 (by decide +kernel), tbI 13 (by decide +kernel), ⟨by decide +kernel, by decide +kernel, by decide +kernel⟩, by decide +kernel⟩
theorem imM_isAskAhead : Cond.instanceMethod (nmT nM_isAskAhead) ∈ gtb := tbI 1528 (by decide +kernel)
theorem seM_isAskAhead : Cond.selects (nmT nM_isAskAhead).cls (nmT nM_isAskAhead) (nmT nM_isAskAhead) ∈ gtb := tbS 81 (by decide +kernel)
theorem mlM_opened : ML nM_opened 1 := ⟨tbI 1525 (by decide +kernel), tbI 13 (by decide +kernel), ⟨by decide +kernel, by decide +kernel, by decide +kernel⟩, by decide +kernel⟩
theorem imM_opened : Cond.instanceMethod (nmT nM_opened) ∈ gtb := tbI 1524 (by decide +kernel)
theorem seM_opened : Cond.selects (nmT nM_opened).cls (nmT nM_opened) (nmT nM_opened) ∈ gtb := tbS 80 (by decide +kernel)
theorem mlM_beginOne : ML nM_beginOne 0 := ⟨tbI 1513 (by decide +kernel), tbI 13 (by decide +kernel), ⟨by decide +kernel, by decide +kernel, by decide +kernel⟩, by decide +kernel⟩
theorem imM_beginOne : Cond.instanceMethod (nmT nM_beginOne) ∈ gtb := tbI 1512 (by decide +kernel)
theorem seM_beginOne : Cond.selects (nmT nM_beginOne).cls (nmT nM_beginOne) (nmT nM_beginOne) ∈ gtb := tbS 77 (by decide +kernel)
theorem mlM_endOne : ML nM_endOne 0 := ⟨tbI 1509 (by decide +kernel), tbI 13 (by decide +kernel), ⟨by decide +kernel, by decide +kernel, by decide +kernel⟩, by decide +kernel⟩
theorem imM_endOne : Cond.instanceMethod (nmT nM_endOne) ∈ gtb := tbI 1508 (by decide +kernel)
theorem seM_endOne : Cond.selects (nmT nM_endOne).cls (nmT nM_endOne) (nmT nM_endOne) ∈ gtb := tbS 76 (by decide +kernel)
theorem mlM_compareOf : ML nM_compareOf 0 := ⟨tbI 1497 (by decide +kernel), tbI 13 (by decide +kernel), ⟨by decide +kernel, by decide +kernel, by decide +kernel⟩, by decide +kernel⟩
theorem imM_compareOf : Cond.instanceMethod (nmT nM_compareOf) ∈ gtb := tbI 1496 (by decide +kernel)
theorem seM_compareOf : Cond.selects (nmT nM_compareOf).cls (nmT nM_compareOf) (nmT nM_compareOf) ∈ gtb := tbS 73 (by decide +kernel)
theorem mlM_betweenOf : ML nM_betweenOf 0 := ⟨tbI 1482 (by decide +kernel), tbI 13 (by decide +kernel), ⟨by decide +kernel, by decide +kernel, by decide +kernel⟩, by decide +kernel⟩
theorem imM_betweenOf : Cond.instanceMethod (nmT nM_betweenOf) ∈ gtb := tbI 1481 (by decide +kernel)
theorem seM_betweenOf : Cond.selects (nmT nM_betweenOf).cls (nmT nM_betweenOf) (nmT nM_betweenOf) ∈ gtb := tbS 70 (by decide +kernel)
theorem mlM_behindOne : ML nM_behindOne 0 := ⟨tbI 1478 (by decide +kernel), tbI 13 (by decide +kernel), ⟨by decide +kernel, by decide +kernel, by decide +kernel⟩, by decide +kernel⟩
theorem imM_behindOne : Cond.instanceMethod (nmT nM_behindOne) ∈ gtb := tbI 1477 (by decide +kernel)
theorem seM_behindOne : Cond.selects (nmT nM_behindOne).cls (nmT nM_behindOne) (nmT nM_behindOne) ∈ gtb := tbS 69 (by decide +kernel)
theorem mlM_parsed : ML nM_parsed 1 := ⟨tbI 1474 (by decide +kernel), tbI 13 (by decide +kernel), ⟨by decide +kernel, by decide +kernel, by decide +kernel⟩, by decide +kernel⟩
theorem imM_parsed : Cond.instanceMethod (nmT nM_parsed) ∈ gtb := tbI 1473 (by decide +kernel)
theorem seM_parsed : Cond.selects (nmT nM_parsed).cls (nmT nM_parsed) (nmT nM_parsed) ∈ gtb := tbS 68 (by decide +kernel)
theorem mlM_figure : ML nM_figure 3 := ⟨tbI 1458 (by decide +kernel), tbI 13 (by decide +kernel), ⟨by decide +kernel, by decide +kernel, by decide +kernel⟩, by decide +kernel⟩
theorem imM_figure : Cond.instanceMethod (nmT nM_figure) ∈ gtb := tbI 1457 (by decide +kernel)
theorem seM_figure : Cond.selects (nmT nM_figure).cls (nmT nM_figure) (nmT nM_figure) ∈ gtb := tbS 64 (by decide +kernel)
theorem mlM_worded : ML nM_worded 4 := ⟨tbI 1462 (by decide +kernel), tbI 13 (by decide +kernel), ⟨by decide +kernel, by decide +kernel, by decide +kernel⟩, by decide +kernel⟩
theorem imM_worded : Cond.instanceMethod (nmT nM_worded) ∈ gtb := tbI 1461 (by decide +kernel)
theorem seM_worded : Cond.selects (nmT nM_worded).cls (nmT nM_worded) (nmT nM_worded) ∈ gtb := tbS 65 (by decide +kernel)
theorem mlM_lawClause : ML nM_lawClause 2 := ⟨tbI 1470 (by decide +kernel), tbI 13 (by decide +kernel), ⟨by decide +kernel, by decide +kernel, by decide +kernel⟩, by decide +kernel⟩
theorem imM_lawClause : Cond.instanceMethod (nmT nM_lawClause) ∈ gtb := tbI 1469 (by decide +kernel)
theorem seM_lawClause : Cond.selects (nmT nM_lawClause).cls (nmT nM_lawClause) (nmT nM_lawClause) ∈ gtb := tbS 67 (by decide +kernel)
theorem mlM_three : ML nM_three 7 := ⟨tbI 1454 (by decide +kernel), tbI 13 (by decide +kernel), ⟨by decide +kernel, by decide +kernel, by decide +kernel⟩, by decide +kernel⟩
theorem imM_three : Cond.instanceMethod (nmT nM_three) ∈ gtb := tbI 1453 (by decide +kernel)
theorem seM_three : Cond.selects (nmT nM_three).cls (nmT nM_three) (nmT nM_three) ∈ gtb := tbS 63 (by decide +kernel)
theorem mlM_two0 : ML nM_two0 4 := ⟨tbI 1466 (by decide +kernel), tbI 13 (by decide +kernel), ⟨by decide +kernel, by decide +kernel, by decide +kernel⟩, by decide +kernel⟩
theorem imM_two0 : Cond.instanceMethod (nmT nM_two0) ∈ gtb := tbI 1465 (by decide +kernel)
theorem seM_two0 : Cond.selects (nmT nM_two0).cls (nmT nM_two0) (nmT nM_two0) ∈ gtb := tbS 66 (by decide +kernel)
theorem mlM_body : ML nM_body 2 := ⟨tbI 1447 (by decide +kernel), tbI 13 (by decide +kernel), ⟨by decide +kernel, by decide +kernel, by decide +kernel⟩, by decide +kernel⟩
theorem imM_body : Cond.instanceMethod (nmT nM_body) ∈ gtb := tbI 1446 (by decide +kernel)
theorem seM_body : Cond.selects (nmT nM_body).cls (nmT nM_body) (nmT nM_body) ∈ gtb := tbS 62 (by decide +kernel)
theorem mlM_sortOf : ML nM_sortOf 0 := ⟨tbI 1420 (by decide +kernel), tbI 13 (by decide +kernel), ⟨by decide +kernel, by decide +kernel, by decide +kernel⟩, by decide +kernel⟩
theorem imM_sortOf : Cond.instanceMethod (nmT nM_sortOf) ∈ gtb := tbI 1419 (by decide +kernel)
theorem seM_sortOf : Cond.selects (nmT nM_sortOf).cls (nmT nM_sortOf) (nmT nM_sortOf) ∈ gtb := tbS 59 (by decide +kernel)
theorem mlM_clause : ML nM_clause 0 := ⟨tbI 1416 (by decide +kernel), tbI 13 (by decide +kernel), ⟨by decide +kernel, by decide +kernel, by decide +kernel⟩, by decide +kernel⟩
theorem imM_clause : Cond.instanceMethod (nmT nM_clause) ∈ gtb := tbI 1415 (by decide +kernel)
theorem seM_clause : Cond.selects (nmT nM_clause).cls (nmT nM_clause) (nmT nM_clause) ∈ gtb := tbS 58 (by decide +kernel)
theorem mlM_readText : ML nM_readText 0 := ⟨tbI 1393 (by decide +kernel), tbI 13 (by decide +kernel), ⟨by decide +kernel, by decide +kernel, by decide +kernel⟩, by decide +kernel⟩
theorem imM_readText : Cond.instanceMethod (nmT nM_readText) ∈ gtb := tbI 1392 (by decide +kernel)
theorem seM_readText : Cond.selects (nmT nM_readText).cls (nmT nM_readText) (nmT nM_readText) ∈ gtb := tbS 55 (by decide +kernel)
theorem mlM_text : ML nM_text 0 := ⟨tbI 1389 (by decide +kernel), tbI 13 (by decide +kernel), ⟨by decide +kernel, by decide +kernel, by decide +kernel⟩, by decide +kernel⟩
theorem imM_text : Cond.instanceMethod (nmT nM_text) ∈ gtb := tbI 1387 (by decide +kernel)
theorem seM_text : Cond.selects (nmT nM_text).cls (nmT nM_text) (nmT nM_text) ∈ gtb := tbI 1388 (by decide +kernel)
theorem mlM_fault : ML nM_fault 1 := ⟨tbI 1533 (by decide +kernel), tbI 13 (by decide +kernel), ⟨by decide +kernel, by decide +kernel, by decide +kernel⟩, by decide +kernel⟩
theorem imM_fault : Cond.instanceMethod (nmT nM_fault) ∈ gtb := tbI 1531 (by decide +kernel)
theorem seM_fault : Cond.selects (nmT nM_fault).cls (nmT nM_fault) (nmT nM_fault) ∈ gtb := tbI 1532 (by decide +kernel)
theorem mlM_by : ML nM_by 1 := ⟨tbI 1537 (by decide +kernel), tbI 13 (by decide +kernel), ⟨by decide +kernel, by decide +kernel, by decide +kernel⟩, by decide +kernel⟩
theorem imM_by : Cond.instanceMethod (nmT nM_by) ∈ gtb := tbI 1535 (by decide +kernel)
theorem seM_by : Cond.selects (nmT nM_by).cls (nmT nM_by) (nmT nM_by) ∈ gtb := tbI 1536 (by decide +kernel)
theorem mlM_clip : ML nM_clip 1 := ⟨tbI 1628 (by decide +kernel), tbI 13 (by decide +kernel), ⟨by decide +kernel, by decide +kernel, by decide +kernel⟩, by decide +kernel⟩
theorem stM_clip : Cond.static (nmT nM_clip) ∈ gtb := tbI 1627 (by decide +kernel)
theorem mlM_two : ML nM_two 3 := ⟨tbI 1625 (by decide +kernel), tbI 13 (by decide +kernel), ⟨by decide +kernel, by decide +kernel, by decide +kernel⟩, by decide +kernel⟩
theorem stM_two : Cond.static (nmT nM_two) ∈ gtb := tbI 1624 (by decide +kernel)
theorem mlM_isAsked : ML nM_isAsked 3 := ⟨tbI 1633 (by decide +kernel), tbI 13 (by decide +kernel), ⟨by decide +kernel, by decide +kernel, by decide +kernel⟩, by decide +kernel⟩
theorem stM_isAsked : Cond.static (nmT nM_isAsked) ∈ gtb := tbI 1632 (by decide +kernel)
theorem mlM_rounded : ML nM_rounded 2 := ⟨tbI 1619 (by decide +kernel), tbI 13 (by decide +kernel), ⟨by decide +kernel, by decide +kernel, by decide +kernel⟩, by decide +kernel⟩
theorem stM_rounded : Cond.static (nmT nM_rounded) ∈ gtb := tbI 1618 (by decide +kernel)
theorem mlM_debtOf : ML nM_debtOf 1 := ⟨tbI 1616 (by decide +kernel), tbI 13 (by decide +kernel), ⟨by decide +kernel, by decide +kernel, by decide +kernel⟩, by decide +kernel⟩
theorem imM_debtOf : Cond.instanceMethod (nmT nM_debtOf) ∈ gtb := tbI 1615 (by decide +kernel)
theorem seM_debtOf : Cond.selects (nmT nM_debtOf).cls (nmT nM_debtOf) (nmT nM_debtOf) ∈ gtb := tbS 96 (by decide +kernel)
theorem mlM_joined : ML nM_joined 3 := ⟨tbI 1636 (by decide +kernel), tbI 13 (by decide +kernel), ⟨by decide +kernel, by decide +kernel, by decide +kernel⟩, by decide +kernel⟩
theorem stM_joined : Cond.static (nmT nM_joined) ∈ gtb := tbI 1635 (by decide +kernel)
theorem mlM_work : ML nM_work 1 := ⟨tbI 1612 (by decide +kernel), tbI 13 (by decide +kernel), ⟨by decide +kernel, by decide +kernel, by decide +kernel⟩, by decide +kernel⟩
theorem imM_work : Cond.instanceMethod (nmT nM_work) ∈ gtb := tbI 1611 (by decide +kernel)
theorem seM_work : Cond.selects (nmT nM_work).cls (nmT nM_work) (nmT nM_work) ∈ gtb := tbS 95 (by decide +kernel)
theorem mlM_clauseOf : ML nM_clauseOf 1 := ⟨tbI 1608 (by decide +kernel), tbI 13 (by decide +kernel), ⟨by decide +kernel, by decide +kernel, by decide +kernel⟩, by decide +kernel⟩
theorem imM_clauseOf : Cond.instanceMethod (nmT nM_clauseOf) ∈ gtb := tbI 1607 (by decide +kernel)
theorem seM_clauseOf : Cond.selects (nmT nM_clauseOf).cls (nmT nM_clauseOf) (nmT nM_clauseOf) ∈ gtb := tbS 94 (by decide +kernel)
theorem mlM_says : ML nM_says 3 := ⟨tbI 1604 (by decide +kernel), tbI 13 (by decide +kernel), ⟨by decide +kernel, by decide +kernel, by decide +kernel⟩, by decide +kernel⟩
theorem imM_says : Cond.instanceMethod (nmT nM_says) ∈ gtb := tbI 1603 (by decide +kernel)
theorem seM_says : Cond.selects (nmT nM_says).cls (nmT nM_says) (nmT nM_says) ∈ gtb := tbS 93 (by decide +kernel)
theorem mlM_name : ML nM_name 3 := ⟨tbI 1600 (by decide +kernel), tbI 13 (by decide +kernel), ⟨by decide +kernel, by decide +kernel, by decide +kernel⟩, by decide +kernel⟩
theorem imM_name : Cond.instanceMethod (nmT nM_name) ∈ gtb := tbI 1599 (by decide +kernel)
theorem seM_name : Cond.selects (nmT nM_name).cls (nmT nM_name) (nmT nM_name) ∈ gtb := tbS 92 (by decide +kernel)
theorem mlM_isComing : ML nM_isComing 1 := ⟨tbI 1659 (by decide +kernel), tbI 13 (by decide +kernel), ⟨by decide +kernel, by decide +kernel, by decide +kernel⟩, by decide +kernel⟩
theorem imM_isComing : Cond.instanceMethod (nmT nM_isComing) ∈ gtb := tbI 1658 (by decide +kernel)
theorem seM_isComing : Cond.selects (nmT nM_isComing).cls (nmT nM_isComing) (nmT nM_isComing) ∈ gtb := tbS 101 (by decide +kernel)
theorem mlM_blowsOf : ML nM_blowsOf 3 := ⟨tbI 1667 (by decide +kernel), tbI 13 (by decide +kernel), ⟨by decide +kernel, by decide +kernel, by decide +kernel⟩, by decide +kernel⟩
theorem imM_blowsOf : Cond.instanceMethod (nmT nM_blowsOf) ∈ gtb := tbI 1666 (by decide +kernel)
theorem seM_blowsOf : Cond.selects (nmT nM_blowsOf).cls (nmT nM_blowsOf) (nmT nM_blowsOf) ∈ gtb := tbS 103 (by decide +kernel)
theorem mlM_blowsNow : ML nM_blowsNow 1 := ⟨tbI 1663 (by decide +kernel), tbI 13 (by decide +kernel), ⟨by decide +kernel, by decide +kernel, by decide +kernel⟩, by decide +kernel⟩
theorem imM_blowsNow : Cond.instanceMethod (nmT nM_blowsNow) ∈ gtb := tbI 1662 (by decide +kernel)
theorem seM_blowsNow : Cond.selects (nmT nM_blowsNow).cls (nmT nM_blowsNow) (nmT nM_blowsNow) ∈ gtb := tbS 102 (by decide +kernel)
theorem mlM_duesOf : ML nM_duesOf 1 := ⟨tbI 1596 (by decide +kernel), tbI 13 (by decide +kernel), ⟨by decide +kernel, by decide +kernel, by decide +kernel⟩, by decide +kernel⟩
theorem imM_duesOf : Cond.instanceMethod (nmT nM_duesOf) ∈ gtb := tbI 1595 (by decide +kernel)
theorem seM_duesOf : Cond.selects (nmT nM_duesOf).cls (nmT nM_duesOf) (nmT nM_duesOf) ∈ gtb := tbS 91 (by decide +kernel)
theorem mlM_nameVillage : ML nM_nameVillage 3 := ⟨tbI 1679 (by decide +kernel), tbI 13 (by decide +kernel), ⟨by decide +kernel, by decide +kernel, by decide +kernel⟩, by decide +kernel⟩
theorem imM_nameVillage : Cond.instanceMethod (nmT nM_nameVillage) ∈ gtb := tbI 1678 (by decide +kernel)
theorem seM_nameVillage : Cond.selects (nmT nM_nameVillage).cls (nmT nM_nameVillage) (nmT nM_nameVillage) ∈ gtb := tbS 106 (by decide +kernel)
theorem mlM_takesOf : ML nM_takesOf 3 := ⟨tbI 1675 (by decide +kernel), tbI 13 (by decide +kernel), ⟨by decide +kernel, by decide +kernel, by decide +kernel⟩, by decide +kernel⟩
theorem imM_takesOf : Cond.instanceMethod (nmT nM_takesOf) ∈ gtb := tbI 1674 (by decide +kernel)
theorem seM_takesOf : Cond.selects (nmT nM_takesOf).cls (nmT nM_takesOf) (nmT nM_takesOf) ∈ gtb := tbS 105 (by decide +kernel)
theorem mlM_catchOf : ML nM_catchOf 3 := ⟨tbI 1683 (by decide +kernel), tbI 13 (by decide +kernel), ⟨by decide +kernel, by decide +kernel, by decide +kernel⟩, by decide +kernel⟩
theorem imM_catchOf : Cond.instanceMethod (nmT nM_catchOf) ∈ gtb := tbI 1682 (by decide +kernel)
theorem seM_catchOf : Cond.selects (nmT nM_catchOf).cls (nmT nM_catchOf) (nmT nM_catchOf) ∈ gtb := tbS 107 (by decide +kernel)
theorem mlM_weights : ML nM_weights 0 := ⟨tbI 1648 (by decide +kernel), tbI 13 (by decide +kernel), ⟨by decide +kernel, by decide +kernel, by decide +kernel⟩, by decide +kernel⟩
theorem imM_weights : Cond.instanceMethod (nmT nM_weights) ∈ gtb := tbI 1647 (by decide +kernel)
theorem seM_weights : Cond.selects (nmT nM_weights).cls (nmT nM_weights) (nmT nM_weights) ∈ gtb := tbS 99 (by decide +kernel)
theorem mlM_anew : ML nM_anew 0 := ⟨tbI 1652 (by decide +kernel), tbI 13 (by decide +kernel), ⟨by decide +kernel, by decide +kernel, by decide +kernel⟩, by decide +kernel⟩
theorem imM_anew : Cond.instanceMethod (nmT nM_anew) ∈ gtb := tbI 1651 (by decide +kernel)
theorem seM_anew : Cond.selects (nmT nM_anew).cls (nmT nM_anew) (nmT nM_anew) ∈ gtb := tbS 100 (by decide +kernel)
theorem mlM_drawn : ML nM_drawn 0 := ⟨tbI 1644 (by decide +kernel), tbI 13 (by decide +kernel), ⟨by decide +kernel, by decide +kernel, by decide +kernel⟩, by decide +kernel⟩
theorem imM_drawn : Cond.instanceMethod (nmT nM_drawn) ∈ gtb := tbI 1643 (by decide +kernel)
theorem seM_drawn : Cond.selects (nmT nM_drawn).cls (nmT nM_drawn) (nmT nM_drawn) ∈ gtb := tbS 98 (by decide +kernel)
theorem mlM_blow : ML nM_blow 0 := ⟨tbI 1640 (by decide +kernel), tbI 13 (by decide +kernel), ⟨by decide +kernel, by decide +kernel, by decide +kernel⟩, by decide +kernel⟩
theorem imM_blow : Cond.instanceMethod (nmT nM_blow) ∈ gtb := tbI 1639 (by decide +kernel)
theorem seM_blow : Cond.selects (nmT nM_blow).cls (nmT nM_blow) (nmT nM_blow) ∈ gtb := tbS 97 (by decide +kernel)
theorem mlM_takeFrom : ML nM_takeFrom 1 := ⟨tbI 1671 (by decide +kernel), tbI 13 (by decide +kernel), ⟨by decide +kernel, by decide +kernel, by decide +kernel⟩, by decide +kernel⟩
theorem imM_takeFrom : Cond.instanceMethod (nmT nM_takeFrom) ∈ gtb := tbI 1670 (by decide +kernel)
theorem seM_takeFrom : Cond.selects (nmT nM_takeFrom).cls (nmT nM_takeFrom) (nmT nM_takeFrom) ∈ gtb := tbS 104 (by decide +kernel)
theorem mlM_write : ML nM_write 0 := ⟨tbI 1687 (by decide +kernel), tbI 13 (by decide +kernel), ⟨by decide +kernel, by decide +kernel, by decide +kernel⟩, by decide +kernel⟩
theorem imM_write : Cond.instanceMethod (nmT nM_write) ∈ gtb := tbI 1686 (by decide +kernel)
theorem seM_write : Cond.selects (nmT nM_write).cls (nmT nM_write) (nmT nM_write) ∈ gtb := tbS 108 (by decide +kernel)
theorem mlM_pass : ML nM_pass 0 := ⟨tbI 1592 (by decide +kernel), tbI 13 (by decide +kernel), ⟨by decide +kernel, by decide +kernel, by decide +kernel⟩, by decide +kernel⟩
theorem imM_pass : Cond.instanceMethod (nmT nM_pass) ∈ gtb := tbI 1591 (by decide +kernel)
theorem seM_pass : Cond.selects (nmT nM_pass).cls (nmT nM_pass) (nmT nM_pass) ∈ gtb := tbS 90 (by decide +kernel)
theorem mlM_keep : ML nM_keep 0 := ⟨tbI 1565 (by decide +kernel), tbI 13 (by decide +kernel), ⟨by decide +kernel, by decide +kernel, by decide +kernel⟩, by decide +kernel⟩
theorem imM_keep : Cond.instanceMethod (nmT nM_keep) ∈ gtb := tbI 1564 (by decide +kernel)
theorem seM_keep : Cond.selects (nmT nM_keep).cls (nmT nM_keep) (nmT nM_keep) ∈ gtb := tbS 86 (by decide +kernel)
theorem mlM_undo : ML nM_undo 0 := ⟨tbI 1541 (by decide +kernel), tbI 13 (by decide +kernel), ⟨by decide +kernel, by decide +kernel, by decide +kernel⟩, by decide +kernel⟩
theorem imM_undo : Cond.instanceMethod (nmT nM_undo) ∈ gtb := tbI 1539 (by decide +kernel)
theorem seM_undo : Cond.selects (nmT nM_undo).cls (nmT nM_undo) (nmT nM_undo) ∈ gtb := tbI 1540 (by decide +kernel)
theorem mlM_canPay : ML nM_canPay 3 := ⟨tbI 1553 (by decide +kernel), tbI 13 (by decide +kernel), ⟨by decide +kernel, by decide +kernel, by decide +kernel⟩, by decide +kernel⟩
theorem imM_canPay : Cond.instanceMethod (nmT nM_canPay) ∈ gtb := tbI 1552 (by decide +kernel)
theorem seM_canPay : Cond.selects (nmT nM_canPay).cls (nmT nM_canPay) (nmT nM_canPay) ∈ gtb := tbS 83 (by decide +kernel)
theorem mlM_payNow : ML nM_payNow 3 := ⟨tbI 1569 (by decide +kernel), tbI 13 (by decide +kernel), ⟨by decide +kernel, by decide +kernel, by decide +kernel⟩, by decide +kernel⟩
theorem imM_payNow : Cond.instanceMethod (nmT nM_payNow) ∈ gtb := tbI 1568 (by decide +kernel)
theorem seM_payNow : Cond.selects (nmT nM_payNow).cls (nmT nM_payNow) (nmT nM_payNow) ∈ gtb := tbS 87 (by decide +kernel)
theorem mlM_pay : ML nM_pay 3 := ⟨tbI 1549 (by decide +kernel), tbI 13 (by decide +kernel), ⟨by decide +kernel, by decide +kernel, by decide +kernel⟩, by decide +kernel⟩
theorem imM_pay : Cond.instanceMethod (nmT nM_pay) ∈ gtb := tbI 1547 (by decide +kernel)
theorem seM_pay : Cond.selects (nmT nM_pay).cls (nmT nM_pay) (nmT nM_pay) ∈ gtb := tbI 1548 (by decide +kernel)
theorem mlM_mergeNow : ML nM_mergeNow 2 := ⟨tbI 1577 (by decide +kernel), tbI 13 (by decide +kernel), ⟨by decide +kernel, by decide +kernel, by decide +kernel⟩, by decide +kernel⟩
theorem imM_mergeNow : Cond.instanceMethod (nmT nM_mergeNow) ∈ gtb := tbI 1576 (by decide +kernel)
theorem seM_mergeNow : Cond.selects (nmT nM_mergeNow).cls (nmT nM_mergeNow) (nmT nM_mergeNow) ∈ gtb := tbS 88 (by decide +kernel)
theorem mlM_merge : ML nM_merge 2 := ⟨tbI 1573 (by decide +kernel), tbI 13 (by decide +kernel), ⟨by decide +kernel, by decide +kernel, by decide +kernel⟩, by decide +kernel⟩
theorem imM_merge : Cond.instanceMethod (nmT nM_merge) ∈ gtb := tbI 1571 (by decide +kernel)
theorem seM_merge : Cond.selects (nmT nM_merge).cls (nmT nM_merge) (nmT nM_merge) ∈ gtb := tbI 1572 (by decide +kernel)
theorem mlM_arePassed : ML nM_arePassed 1 := ⟨tbI 1588 (by decide +kernel), tbI 13 (by decide +kernel), ⟨by decide +kernel, by decide +kernel, by decide +kernel⟩, by decide +kernel⟩
theorem imM_arePassed : Cond.instanceMethod (nmT nM_arePassed) ∈ gtb := tbI 1587 (by decide +kernel)
theorem seM_arePassed : Cond.selects (nmT nM_arePassed).cls (nmT nM_arePassed) (nmT nM_arePassed) ∈ gtb := tbS 89 (by decide +kernel)
theorem mlM_day : ML nM_day 1 := ⟨tbI 1584 (by decide +kernel), tbI 13 (by decide +kernel), ⟨by decide +kernel, by decide +kernel, by decide +kernel⟩, by decide +kernel⟩
theorem imM_day : Cond.instanceMethod (nmT nM_day) ∈ gtb := tbI 1582 (by decide +kernel)
theorem seM_day : Cond.selects (nmT nM_day).cls (nmT nM_day) (nmT nM_day) ∈ gtb := tbI 1583 (by decide +kernel)
theorem mlM_isPlayed : ML nM_isPlayed 1 := ⟨tbI 1695 (by decide +kernel), tbI 13 (by decide +kernel), ⟨by decide +kernel, by decide +kernel, by decide +kernel⟩, by decide +kernel⟩
theorem imM_isPlayed : Cond.instanceMethod (nmT nM_isPlayed) ∈ gtb := tbI 1694 (by decide +kernel)
theorem seM_isPlayed : Cond.selects (nmT nM_isPlayed).cls (nmT nM_isPlayed) (nmT nM_isPlayed) ∈ gtb := tbS 109 (by decide +kernel)
theorem mlM_played : ML nM_played 1 := ⟨tbI 1691 (by decide +kernel), tbI 13 (by decide +kernel), ⟨by decide +kernel, by decide +kernel, by decide +kernel⟩, by decide +kernel⟩
theorem imM_played : Cond.instanceMethod (nmT nM_played) ∈ gtb := tbI 1689 (by decide +kernel)
theorem seM_played : Cond.selects (nmT nM_played).cls (nmT nM_played) (nmT nM_played) ∈ gtb := tbI 1690 (by decide +kernel)
theorem mlM_happens : ML nM_happens 1 := ⟨tbI 1708 (by decide +kernel), tbI 13 (by decide +kernel), ⟨by decide +kernel, by decide +kernel, by decide +kernel⟩, by decide +kernel⟩
theorem imM_happens : Cond.instanceMethod (nmT nM_happens) ∈ gtb := tbI 1707 (by decide +kernel)
theorem seM_happens : Cond.selects (nmT nM_happens).cls (nmT nM_happens) (nmT nM_happens) ∈ gtb := tbS 110 (by decide +kernel)
theorem mlM_years : ML nM_years 2 := ⟨tbI 1704 (by decide +kernel), tbI 13 (by decide +kernel), ⟨by decide +kernel, by decide +kernel, by decide +kernel⟩, by decide +kernel⟩
theorem imM_years : Cond.instanceMethod (nmT nM_years) ∈ gtb := tbI 1702 (by decide +kernel)
theorem seM_years : Cond.selects (nmT nM_years).cls (nmT nM_years) (nmT nM_years) ∈ gtb := tbI 1703 (by decide +kernel)
theorem mlM_ofWind : ML nM_ofWind 2 := ⟨tbI 1712 (by decide +kernel), tbI 13 (by decide +kernel), ⟨by decide +kernel, by decide +kernel, by decide +kernel⟩, by decide +kernel⟩
theorem imM_ofWind : Cond.instanceMethod (nmT nM_ofWind) ∈ gtb := tbI 1710 (by decide +kernel)
theorem seM_ofWind : Cond.selects (nmT nM_ofWind).cls (nmT nM_ofWind) (nmT nM_ofWind) ∈ gtb := tbI 1711 (by decide +kernel)
theorem mlM_ofVillage : ML nM_ofVillage 2 := ⟨tbI 1716 (by decide +kernel), tbI 13 (by decide +kernel), ⟨by decide +kernel, by decide +kernel, by decide +kernel⟩, by decide +kernel⟩
theorem imM_ofVillage : Cond.instanceMethod (nmT nM_ofVillage) ∈ gtb := tbI 1714 (by decide +kernel)
theorem seM_ofVillage : Cond.selects (nmT nM_ofVillage).cls (nmT nM_ofVillage) (nmT nM_ofVillage) ∈ gtb := tbI 1715 (by decide +kernel)
theorem mlM_takes : ML nM_takes 3 := ⟨tbI 1720 (by decide +kernel), tbI 13 (by decide +kernel), ⟨by decide +kernel, by decide +kernel, by decide +kernel⟩, by decide +kernel⟩
theorem imM_takes : Cond.instanceMethod (nmT nM_takes) ∈ gtb := tbI 1718 (by decide +kernel)
theorem seM_takes : Cond.selects (nmT nM_takes).cls (nmT nM_takes) (nmT nM_takes) ∈ gtb := tbI 1719 (by decide +kernel)
theorem mlM_catches : ML nM_catches 3 := ⟨tbI 1724 (by decide +kernel), tbI 13 (by decide +kernel), ⟨by decide +kernel, by decide +kernel, by decide +kernel⟩, by decide +kernel⟩
theorem imM_catches : Cond.instanceMethod (nmT nM_catches) ∈ gtb := tbI 1722 (by decide +kernel)
theorem seM_catches : Cond.selects (nmT nM_catches).cls (nmT nM_catches) (nmT nM_catches) ∈ gtb := tbI 1723 (by decide +kernel)
theorem mlM_is : ML nM_is 1 := ⟨tbI 1728 (by decide +kernel), tbI 13 (by decide +kernel), ⟨by decide +kernel, by decide +kernel, by decide +kernel⟩, by decide +kernel⟩
theorem imM_is : Cond.instanceMethod (nmT nM_is) ∈ gtb := tbI 1726 (by decide +kernel)
theorem seM_is : Cond.selects (nmT nM_is).cls (nmT nM_is) (nmT nM_is) ∈ gtb := tbI 1727 (by decide +kernel)
theorem mlM_shown : ML nM_shown 0 := ⟨tbI 1736 (by decide +kernel), tbI 13 (by decide +kernel), ⟨by decide +kernel, by decide +kernel, by decide +kernel⟩, by decide +kernel⟩
theorem imM_shown : Cond.instanceMethod (nmT nM_shown) ∈ gtb := tbI 1735 (by decide +kernel)
theorem seM_shown : Cond.selects (nmT nM_shown).cls (nmT nM_shown) (nmT nM_shown) ∈ gtb := tbS 111 (by decide +kernel)
theorem mlM_entry : ML nM_entry 2 := ⟨tbI 1740 (by decide +kernel), tbI 13 (by decide +kernel), ⟨by decide +kernel, by decide +kernel, by decide +kernel⟩, by decide +kernel⟩
theorem imM_entry : Cond.instanceMethod (nmT nM_entry) ∈ gtb := tbI 1739 (by decide +kernel)
theorem seM_entry : Cond.selects (nmT nM_entry).cls (nmT nM_entry) (nmT nM_entry) ∈ gtb := tbS 112 (by decide +kernel)
theorem mlM_book : ML nM_book 2 := ⟨tbI 1732 (by decide +kernel), tbI 13 (by decide +kernel), ⟨by decide +kernel, by decide +kernel, by decide +kernel⟩, by decide +kernel⟩
theorem imM_book : Cond.instanceMethod (nmT nM_book) ∈ gtb := tbI 1730 (by decide +kernel)
theorem seM_book : Cond.selects (nmT nM_book).cls (nmT nM_book) (nmT nM_book) ∈ gtb := tbI 1731 (by decide +kernel)
theorem mlM_often : ML nM_often 1 := ⟨tbI 1744 (by decide +kernel), tbI 13 (by decide +kernel), ⟨by decide +kernel, by decide +kernel, by decide +kernel⟩, by decide +kernel⟩
theorem imM_often : Cond.instanceMethod (nmT nM_often) ∈ gtb := tbI 1742 (by decide +kernel)
theorem seM_often : Cond.selects (nmT nM_often).cls (nmT nM_often) (nmT nM_often) ∈ gtb := tbI 1743 (by decide +kernel)
theorem mlM_worstDay : ML nM_worstDay 0 := ⟨tbI 1748 (by decide +kernel), tbI 13 (by decide +kernel), ⟨by decide +kernel, by decide +kernel, by decide +kernel⟩, by decide +kernel⟩
theorem imM_worstDay : Cond.instanceMethod (nmT nM_worstDay) ∈ gtb := tbI 1746 (by decide +kernel)
theorem seM_worstDay : Cond.selects (nmT nM_worstDay).cls (nmT nM_worstDay) (nmT nM_worstDay) ∈ gtb := tbI 1747 (by decide +kernel)
theorem mlM_strongest : ML nM_strongest 0 := ⟨tbI 1752 (by decide +kernel), tbI 13 (by decide +kernel), ⟨by decide +kernel, by decide +kernel, by decide +kernel⟩, by decide +kernel⟩
theorem imM_strongest : Cond.instanceMethod (nmT nM_strongest) ∈ gtb := tbI 1750 (by decide +kernel)
theorem seM_strongest : Cond.selects (nmT nM_strongest).cls (nmT nM_strongest) (nmT nM_strongest) ∈ gtb := tbI 1751 (by decide +kernel)
theorem mlM_richest : ML nM_richest 0 := ⟨tbI 1756 (by decide +kernel), tbI 13 (by decide +kernel), ⟨by decide +kernel, by decide +kernel, by decide +kernel⟩, by decide +kernel⟩
theorem imM_richest : Cond.instanceMethod (nmT nM_richest) ∈ gtb := tbI 1754 (by decide +kernel)
theorem seM_richest : Cond.selects (nmT nM_richest).cls (nmT nM_richest) (nmT nM_richest) ∈ gtb := tbI 1755 (by decide +kernel)
theorem mlM_setAside : ML nM_setAside 0 := ⟨tbI 1772 (by decide +kernel), tbI 13 (by decide +kernel), ⟨by decide +kernel, by decide +kernel, by decide +kernel⟩, by decide +kernel⟩
theorem imM_setAside : Cond.instanceMethod (nmT nM_setAside) ∈ gtb := tbI 1771 (by decide +kernel)
theorem seM_setAside : Cond.selects (nmT nM_setAside).cls (nmT nM_setAside) (nmT nM_setAside) ∈ gtb := tbS 115 (by decide +kernel)
theorem mlM_putBack : ML nM_putBack 0 := ⟨tbI 1780 (by decide +kernel), tbI 13 (by decide +kernel), ⟨by decide +kernel, by decide +kernel, by decide +kernel⟩, by decide +kernel⟩
theorem imM_putBack : Cond.instanceMethod (nmT nM_putBack) ∈ gtb := tbI 1779 (by decide +kernel)
theorem seM_putBack : Cond.selects (nmT nM_putBack).cls (nmT nM_putBack) (nmT nM_putBack) ∈ gtb := tbS 117 (by decide +kernel)
theorem mlM_goOn : ML nM_goOn 0 := ⟨tbI 1776 (by decide +kernel), tbI 13 (by decide +kernel), ⟨by decide +kernel, by decide +kernel, by decide +kernel⟩, by decide +kernel⟩
theorem imM_goOn : Cond.instanceMethod (nmT nM_goOn) ∈ gtb := tbI 1775 (by decide +kernel)
theorem seM_goOn : Cond.selects (nmT nM_goOn).cls (nmT nM_goOn) (nmT nM_goOn) ∈ gtb := tbS 116 (by decide +kernel)
theorem mlM_behind : ML nM_behind 2 := ⟨tbI 1768 (by decide +kernel), tbI 13 (by decide +kernel), ⟨by decide +kernel, by decide +kernel, by decide +kernel⟩, by decide +kernel⟩
theorem imM_behind : Cond.instanceMethod (nmT nM_behind) ∈ gtb := tbI 1767 (by decide +kernel)
theorem seM_behind : Cond.selects (nmT nM_behind).cls (nmT nM_behind) (nmT nM_behind) ∈ gtb := tbS 114 (by decide +kernel)
theorem mlM_takenIn : ML nM_takenIn 1 := ⟨tbI 1764 (by decide +kernel), tbI 13 (by decide +kernel), ⟨by decide +kernel, by decide +kernel, by decide +kernel⟩, by decide +kernel⟩
theorem imM_takenIn : Cond.instanceMethod (nmT nM_takenIn) ∈ gtb := tbI 1763 (by decide +kernel)
theorem seM_takenIn : Cond.selects (nmT nM_takenIn).cls (nmT nM_takenIn) (nmT nM_takenIn) ∈ gtb := tbS 113 (by decide +kernel)
theorem mlM_foretold : ML nM_foretold 1 := ⟨tbI 1760 (by decide +kernel), tbI 13 (by decide +kernel), ⟨by decide +kernel, by decide +kernel, by decide +kernel⟩, by decide +kernel⟩
theorem imM_foretold : Cond.instanceMethod (nmT nM_foretold) ∈ gtb := tbI 1758 (by decide +kernel)
theorem seM_foretold : Cond.selects (nmT nM_foretold).cls (nmT nM_foretold) (nmT nM_foretold) ∈ gtb := tbI 1759 (by decide +kernel)
theorem mlM_purse : ML nM_purse 2 := ⟨tbI 1784 (by decide +kernel), tbI 13 (by decide +kernel), ⟨by decide +kernel, by decide +kernel, by decide +kernel⟩, by decide +kernel⟩
theorem imM_purse : Cond.instanceMethod (nmT nM_purse) ∈ gtb := tbI 1782 (by decide +kernel)
theorem seM_purse : Cond.selects (nmT nM_purse).cls (nmT nM_purse) (nmT nM_purse) ∈ gtb := tbI 1783 (by decide +kernel)
theorem mlM_owed : ML nM_owed 2 := ⟨tbI 1788 (by decide +kernel), tbI 13 (by decide +kernel), ⟨by decide +kernel, by decide +kernel, by decide +kernel⟩, by decide +kernel⟩
theorem imM_owed : Cond.instanceMethod (nmT nM_owed) ∈ gtb := tbI 1786 (by decide +kernel)
theorem seM_owed : Cond.selects (nmT nM_owed).cls (nmT nM_owed) (nmT nM_owed) ∈ gtb := tbI 1787 (by decide +kernel)
theorem mlM_isInArrears : ML nM_isInArrears 0 := ⟨tbI 1796 (by decide +kernel), tbI 13 (by decide +kernel), ⟨by decide +kernel, by decide +kernel, by decide +kernel⟩, by decide +kernel⟩
theorem imM_isInArrears : Cond.instanceMethod (nmT nM_isInArrears) ∈ gtb := tbI 1795 (by decide +kernel)
theorem seM_isInArrears : Cond.selects (nmT nM_isInArrears).cls (nmT nM_isInArrears) (nmT nM_isInArrears) ∈ gtb := tbS 118 (by decide +kernel)
theorem mlM_arrears : ML nM_arrears 0 := ⟨tbI 1792 (by decide +kernel), tbI 13 (by decide +kernel), ⟨by decide +kernel, by decide +kernel, by decide +kernel⟩, by decide +kernel⟩
theorem imM_arrears : Cond.instanceMethod (nmT nM_arrears) ∈ gtb := tbI 1790 (by decide +kernel)
theorem seM_arrears : Cond.selects (nmT nM_arrears).cls (nmT nM_arrears) (nmT nM_arrears) ∈ gtb := tbI 1791 (by decide +kernel)
theorem mlM_broke : ML nM_broke 1 := ⟨tbI 1800 (by decide +kernel), tbI 13 (by decide +kernel), ⟨by decide +kernel, by decide +kernel, by decide +kernel⟩, by decide +kernel⟩
theorem imM_broke : Cond.instanceMethod (nmT nM_broke) ∈ gtb := tbI 1798 (by decide +kernel)
theorem seM_broke : Cond.selects (nmT nM_broke).cls (nmT nM_broke) (nmT nM_broke) ∈ gtb := tbI 1799 (by decide +kernel)
theorem mlM_whose : ML nM_whose 1 := ⟨tbI 1804 (by decide +kernel), tbI 13 (by decide +kernel), ⟨by decide +kernel, by decide +kernel, by decide +kernel⟩, by decide +kernel⟩
theorem imM_whose : Cond.instanceMethod (nmT nM_whose) ∈ gtb := tbI 1802 (by decide +kernel)
theorem seM_whose : Cond.selects (nmT nM_whose).cls (nmT nM_whose) (nmT nM_whose) ∈ gtb := tbI 1803 (by decide +kernel)
theorem mlM_calms : ML nM_calms 2 := ⟨tbI 1809 (by decide +kernel), tbI 13 (by decide +kernel), ⟨by decide +kernel, by decide +kernel, by decide +kernel⟩, by decide +kernel⟩
theorem imM_calms : Cond.instanceMethod (nmT nM_calms) ∈ gtb := tbI 1807 (by decide +kernel)
theorem seM_calms : Cond.selects (nmT nM_calms).cls (nmT nM_calms) (nmT nM_calms) ∈ gtb := tbI 1808 (by decide +kernel)
theorem mlM_common : ML nM_common 2 := ⟨tbI 1820 (by decide +kernel), tbI 13 (by decide +kernel), ⟨by decide +kernel, by decide +kernel, by decide +kernel⟩, by decide +kernel⟩
theorem stM_common : Cond.static (nmT nM_common) ∈ gtb := tbI 1819 (by decide +kernel)
theorem mlM_part : ML nM_part 3 := ⟨tbI 1817 (by decide +kernel), tbI 13 (by decide +kernel), ⟨by decide +kernel, by decide +kernel, by decide +kernel⟩, by decide +kernel⟩
theorem stM_part : Cond.static (nmT nM_part) ∈ gtb := tbI 1816 (by decide +kernel)
theorem mlM_odds : ML nM_odds 3 := ⟨tbI 1813 (by decide +kernel), tbI 13 (by decide +kernel), ⟨by decide +kernel, by decide +kernel, by decide +kernel⟩, by decide +kernel⟩
theorem imM_odds : Cond.instanceMethod (nmT nM_odds) ∈ gtb := tbI 1811 (by decide +kernel)
theorem seM_odds : Cond.selects (nmT nM_odds).cls (nmT nM_odds) (nmT nM_odds) ∈ gtb := tbI 1812 (by decide +kernel)
theorem mlM_owedBy : ML nM_owedBy 2 := ⟨tbI 1828 (by decide +kernel), tbI 13 (by decide +kernel), ⟨by decide +kernel, by decide +kernel, by decide +kernel⟩, by decide +kernel⟩
theorem imM_owedBy : Cond.instanceMethod (nmT nM_owedBy) ∈ gtb := tbI 1827 (by decide +kernel)
theorem seM_owedBy : Cond.selects (nmT nM_owedBy).cls (nmT nM_owedBy) (nmT nM_owedBy) ∈ gtb := tbS 119 (by decide +kernel)
theorem mlM_takenBy : ML nM_takenBy 2 := ⟨tbI 1832 (by decide +kernel), tbI 13 (by decide +kernel), ⟨by decide +kernel, by decide +kernel, by decide +kernel⟩, by decide +kernel⟩
theorem imM_takenBy : Cond.instanceMethod (nmT nM_takenBy) ∈ gtb := tbI 1831 (by decide +kernel)
theorem seM_takenBy : Cond.selects (nmT nM_takenBy).cls (nmT nM_takenBy) (nmT nM_takenBy) ∈ gtb := tbS 120 (by decide +kernel)
theorem mlM_least : ML nM_least 3 := ⟨tbI 1824 (by decide +kernel), tbI 13 (by decide +kernel), ⟨by decide +kernel, by decide +kernel, by decide +kernel⟩, by decide +kernel⟩
theorem imM_least : Cond.instanceMethod (nmT nM_least) ∈ gtb := tbI 1822 (by decide +kernel)
theorem seM_least : Cond.selects (nmT nM_least).cls (nmT nM_least) (nmT nM_least) ∈ gtb := tbI 1823 (by decide +kernel)
theorem mlM_nextRow : ML nM_nextRow 1 := ⟨tbI 1847 (by decide +kernel), tbI 13 (by decide +kernel), ⟨by decide +kernel, by decide +kernel, by decide +kernel⟩, by decide +kernel⟩
theorem imM_nextRow : Cond.instanceMethod (nmT nM_nextRow) ∈ gtb := tbI 1846 (by decide +kernel)
theorem seM_nextRow : Cond.selects (nmT nM_nextRow).cls (nmT nM_nextRow) (nmT nM_nextRow) ∈ gtb := tbS 122 (by decide +kernel)
theorem mlM_added : ML nM_added 2 := ⟨tbI 1843 (by decide +kernel), tbI 13 (by decide +kernel), ⟨by decide +kernel, by decide +kernel, by decide +kernel⟩, by decide +kernel⟩
theorem imM_added : Cond.instanceMethod (nmT nM_added) ∈ gtb := tbI 1842 (by decide +kernel)
theorem seM_added : Cond.selects (nmT nM_added).cls (nmT nM_added) (nmT nM_added) ∈ gtb := tbS 121 (by decide +kernel)
theorem mlM_share : ML nM_share 5 := ⟨tbI 1836 (by decide +kernel), tbI 13 (by decide +kernel), ⟨by decide +kernel, by decide +kernel, by decide +kernel⟩, by decide +kernel⟩
theorem imM_share : Cond.instanceMethod (nmT nM_share) ∈ gtb := tbI 1834 (by decide +kernel)
theorem seM_share : Cond.selects (nmT nM_share).cls (nmT nM_share) (nmT nM_share) ∈ gtb := tbI 1835 (by decide +kernel)
theorem mlM_laySpeeds : ML nM_laySpeeds 0 := ⟨tbI 1855 (by decide +kernel), tbI 13 (by decide +kernel), ⟨by decide +kernel, by decide +kernel, by decide +kernel⟩, by decide +kernel⟩
theorem imM_laySpeeds : Cond.instanceMethod (nmT nM_laySpeeds) ∈ gtb := tbI 1854 (by decide +kernel)
theorem seM_laySpeeds : Cond.selects (nmT nM_laySpeeds).cls (nmT nM_laySpeeds) (nmT nM_laySpeeds) ∈ gtb := tbS 123 (by decide +kernel)
theorem mlM_reached : ML nM_reached 2 := ⟨tbI 1863 (by decide +kernel), tbI 13 (by decide +kernel), ⟨by decide +kernel, by decide +kernel, by decide +kernel⟩, by decide +kernel⟩
theorem imM_reached : Cond.instanceMethod (nmT nM_reached) ∈ gtb := tbI 1862 (by decide +kernel)
theorem seM_reached : Cond.selects (nmT nM_reached).cls (nmT nM_reached) (nmT nM_reached) ∈ gtb := tbS 125 (by decide +kernel)
theorem mlM_arrival : ML nM_arrival 2 := ⟨tbI 1859 (by decide +kernel), tbI 13 (by decide +kernel), ⟨by decide +kernel, by decide +kernel, by decide +kernel⟩, by decide +kernel⟩
theorem imM_arrival : Cond.instanceMethod (nmT nM_arrival) ∈ gtb := tbI 1858 (by decide +kernel)
theorem seM_arrival : Cond.selects (nmT nM_arrival).cls (nmT nM_arrival) (nmT nM_arrival) ∈ gtb := tbS 124 (by decide +kernel)
theorem mlM_voyage : ML nM_voyage 3 := ⟨tbI 1851 (by decide +kernel), tbI 13 (by decide +kernel), ⟨by decide +kernel, by decide +kernel, by decide +kernel⟩, by decide +kernel⟩
theorem imM_voyage : Cond.instanceMethod (nmT nM_voyage) ∈ gtb := tbI 1849 (by decide +kernel)
theorem seM_voyage : Cond.selects (nmT nM_voyage).cls (nmT nM_voyage) (nmT nM_voyage) ∈ gtb := tbI 1850 (by decide +kernel)
theorem mlM_took : ML nM_took 2 := ⟨tbI 1867 (by decide +kernel), tbI 13 (by decide +kernel), ⟨by decide +kernel, by decide +kernel, by decide +kernel⟩, by decide +kernel⟩
theorem imM_took : Cond.instanceMethod (nmT nM_took) ∈ gtb := tbI 1865 (by decide +kernel)
theorem seM_took : Cond.selects (nmT nM_took).cls (nmT nM_took) (nmT nM_took) ∈ gtb := tbI 1866 (by decide +kernel)
theorem mlM_isFitting : ML nM_isFitting 2 := ⟨tbI 1879 (by decide +kernel), tbI 13 (by decide +kernel), ⟨by decide +kernel, by decide +kernel, by decide +kernel⟩, by decide +kernel⟩
theorem imM_isFitting : Cond.instanceMethod (nmT nM_isFitting) ∈ gtb := tbI 1878 (by decide +kernel)
theorem seM_isFitting : Cond.selects (nmT nM_isFitting).cls (nmT nM_isFitting) (nmT nM_isFitting) ∈ gtb := tbS 127 (by decide +kernel)
theorem mlM_strengthsOf : ML nM_strengthsOf 1 := ⟨tbI 1875 (by decide +kernel), tbI 13 (by decide +kernel), ⟨by decide +kernel, by decide +kernel, by decide +kernel⟩, by decide +kernel⟩
theorem imM_strengthsOf : Cond.instanceMethod (nmT nM_strengthsOf) ∈ gtb := tbI 1874 (by decide +kernel)
theorem seM_strengthsOf : Cond.selects (nmT nM_strengthsOf).cls (nmT nM_strengthsOf) (nmT nM_strengthsOf) ∈ gtb := tbS 126 (by decide +kernel)
theorem mlM_whoseWind : ML nM_whoseWind 0 := ⟨tbI 1871 (by decide +kernel), tbI 13 (by decide +kernel), ⟨by decide +kernel, by decide +kernel, by decide +kernel⟩, by decide +kernel⟩
theorem imM_whoseWind : Cond.instanceMethod (nmT nM_whoseWind) ∈ gtb := tbI 1869 (by decide +kernel)
theorem seM_whoseWind : Cond.selects (nmT nM_whoseWind).cls (nmT nM_whoseWind) (nmT nM_whoseWind) ∈ gtb := tbI 1870 (by decide +kernel)
theorem mlM_strengths : ML nM_strengths 1 := ⟨tbI 1883 (by decide +kernel), tbI 13 (by decide +kernel), ⟨by decide +kernel, by decide +kernel, by decide +kernel⟩, by decide +kernel⟩
theorem imM_strengths : Cond.instanceMethod (nmT nM_strengths) ∈ gtb := tbI 1881 (by decide +kernel)
theorem seM_strengths : Cond.selects (nmT nM_strengths).cls (nmT nM_strengths) (nmT nM_strengths) ∈ gtb := tbI 1882 (by decide +kernel)
theorem mlM_answers : ML nM_answers 1 := ⟨tbI 1895 (by decide +kernel), tbI 13 (by decide +kernel), ⟨by decide +kernel, by decide +kernel, by decide +kernel⟩, by decide +kernel⟩
theorem imM_answers : Cond.instanceMethod (nmT nM_answers) ∈ gtb := tbI 1894 (by decide +kernel)
theorem seM_answers : Cond.selects (nmT nM_answers).cls (nmT nM_answers) (nmT nM_answers) ∈ gtb := tbS 129 (by decide +kernel)
theorem mlM_isRead : ML nM_isRead 1 := ⟨tbI 1891 (by decide +kernel), tbI 13 (by decide +kernel), ⟨by decide +kernel, by decide +kernel, by decide +kernel⟩, by decide +kernel⟩
theorem imM_isRead : Cond.instanceMethod (nmT nM_isRead) ∈ gtb := tbI 1890 (by decide +kernel)
theorem seM_isRead : Cond.selects (nmT nM_isRead).cls (nmT nM_isRead) (nmT nM_isRead) ∈ gtb := tbS 128 (by decide +kernel)
theorem mlM_vane : ML nM_vane 0 := ⟨tbI 1887 (by decide +kernel), tbI 13 (by decide +kernel), ⟨by decide +kernel, by decide +kernel, by decide +kernel⟩, by decide +kernel⟩
theorem imM_vane : Cond.instanceMethod (nmT nM_vane) ∈ gtb := tbI 1885 (by decide +kernel)
theorem seM_vane : Cond.selects (nmT nM_vane).cls (nmT nM_vane) (nmT nM_vane) ∈ gtb := tbI 1886 (by decide +kernel)
theorem mlM_sail : ML nM_sail 1 := ⟨tbI 1899 (by decide +kernel), tbI 13 (by decide +kernel), ⟨by decide +kernel, by decide +kernel, by decide +kernel⟩, by decide +kernel⟩
theorem imM_sail : Cond.instanceMethod (nmT nM_sail) ∈ gtb := tbI 1897 (by decide +kernel)
theorem seM_sail : Cond.selects (nmT nM_sail).cls (nmT nM_sail) (nmT nM_sail) ∈ gtb := tbI 1898 (by decide +kernel)
theorem mlM_paymentOf : ML nM_paymentOf 2 := ⟨tbI 1914 (by decide +kernel), tbI 13 (by decide +kernel), ⟨by decide +kernel, by decide +kernel, by decide +kernel⟩, by decide +kernel⟩
theorem stM_paymentOf : Cond.static (nmT nM_paymentOf) ∈ gtb := tbI 1913 (by decide +kernel)
theorem mlM_isTorn : ML nM_isTorn 3 := ⟨tbI 1911 (by decide +kernel), tbI 13 (by decide +kernel), ⟨by decide +kernel, by decide +kernel, by decide +kernel⟩, by decide +kernel⟩
theorem imM_isTorn : Cond.instanceMethod (nmT nM_isTorn) ∈ gtb := tbI 1910 (by decide +kernel)
theorem seM_isTorn : Cond.selects (nmT nM_isTorn).cls (nmT nM_isTorn) (nmT nM_isTorn) ∈ gtb := tbS 131 (by decide +kernel)
theorem mlM_canTear : ML nM_canTear 2 := ⟨tbI 1907 (by decide +kernel), tbI 13 (by decide +kernel), ⟨by decide +kernel, by decide +kernel, by decide +kernel⟩, by decide +kernel⟩
theorem imM_canTear : Cond.instanceMethod (nmT nM_canTear) ∈ gtb := tbI 1906 (by decide +kernel)
theorem seM_canTear : Cond.selects (nmT nM_canTear).cls (nmT nM_canTear) (nmT nM_canTear) ∈ gtb := tbS 130 (by decide +kernel)
theorem mlM_sails : ML nM_sails 2 := ⟨tbI 1903 (by decide +kernel), tbI 13 (by decide +kernel), ⟨by decide +kernel, by decide +kernel, by decide +kernel⟩, by decide +kernel⟩
theorem imM_sails : Cond.instanceMethod (nmT nM_sails) ∈ gtb := tbI 1901 (by decide +kernel)
theorem seM_sails : Cond.selects (nmT nM_sails).cls (nmT nM_sails) (nmT nM_sails) ∈ gtb := tbI 1902 (by decide +kernel)
theorem mlM_sure : ML nM_sure 3 := ⟨tbI 1918 (by decide +kernel), tbI 13 (by decide +kernel), ⟨by decide +kernel, by decide +kernel, by decide +kernel⟩, by decide +kernel⟩
theorem imM_sure : Cond.instanceMethod (nmT nM_sure) ∈ gtb := tbI 1916 (by decide +kernel)
theorem seM_sure : Cond.selects (nmT nM_sure).cls (nmT nM_sure) (nmT nM_sure) ∈ gtb := tbI 1917 (by decide +kernel)
theorem mlM_kind : ML nM_kind 1 := ⟨tbI 1922 (by decide +kernel), tbI 13 (by decide +kernel), ⟨by decide +kernel, by decide +kernel, by decide +kernel⟩, by decide +kernel⟩
theorem imM_kind : Cond.instanceMethod (nmT nM_kind) ∈ gtb := tbI 1920 (by decide +kernel)
theorem seM_kind : Cond.selects (nmT nM_kind).cls (nmT nM_kind) (nmT nM_kind) ∈ gtb := tbI 1921 (by decide +kernel)
theorem mlM_layPieces : ML nM_layPieces 1 := ⟨tbI 1930 (by decide +kernel), tbI 13 (by decide +kernel), ⟨by decide +kernel, by decide +kernel, by decide +kernel⟩, by decide +kernel⟩
theorem imM_layPieces : Cond.instanceMethod (nmT nM_layPieces) ∈ gtb := tbI 1929 (by decide +kernel)
theorem seM_layPieces : Cond.selects (nmT nM_layPieces).cls (nmT nM_layPieces) (nmT nM_layPieces) ∈ gtb := tbS 132 (by decide +kernel)
theorem mlM_inKind : ML nM_inKind 2 := ⟨tbI 1926 (by decide +kernel), tbI 13 (by decide +kernel), ⟨by decide +kernel, by decide +kernel, by decide +kernel⟩, by decide +kernel⟩
theorem imM_inKind : Cond.instanceMethod (nmT nM_inKind) ∈ gtb := tbI 1924 (by decide +kernel)
theorem seM_inKind : Cond.selects (nmT nM_inKind).cls (nmT nM_inKind) (nmT nM_inKind) ∈ gtb := tbI 1925 (by decide +kernel)
theorem mlM_image : ML nM_image 0 := ⟨tbI 1934 (by decide +kernel), tbI 13 (by decide +kernel), ⟨by decide +kernel, by decide +kernel, by decide +kernel⟩, by decide +kernel⟩
theorem imM_image : Cond.instanceMethod (nmT nM_image) ∈ gtb := tbI 1932 (by decide +kernel)
theorem seM_image : Cond.selects (nmT nM_image).cls (nmT nM_image) (nmT nM_image) ∈ gtb := tbI 1933 (by decide +kernel)
theorem mlM_back : ML nM_back 0 := ⟨tbI 1938 (by decide +kernel), tbI 13 (by decide +kernel), ⟨by decide +kernel, by decide +kernel, by decide +kernel⟩, by decide +kernel⟩
theorem imM_back : Cond.instanceMethod (nmT nM_back) ∈ gtb := tbI 1936 (by decide +kernel)
theorem seM_back : Cond.selects (nmT nM_back).cls (nmT nM_back) (nmT nM_back) ∈ gtb := tbI 1937 (by decide +kernel)
theorem mlM_about : ML nM_about 1 := ⟨tbI 1942 (by decide +kernel), tbI 13 (by decide +kernel), ⟨by decide +kernel, by decide +kernel, by decide +kernel⟩, by decide +kernel⟩
theorem imM_about : Cond.instanceMethod (nmT nM_about) ∈ gtb := tbI 1940 (by decide +kernel)
theorem seM_about : Cond.selects (nmT nM_about).cls (nmT nM_about) (nmT nM_about) ∈ gtb := tbI 1941 (by decide +kernel)
theorem mlC_init : ML nC_init 0 := ⟨tbI 208 (by decide +kernel), tbI 7 (by decide +kernel), ⟨by decide +kernel, by decide +kernel, by decide +kernel⟩, by decide +kernel⟩
theorem imC_init : Cond.instanceMethod (nmT nC_init) ∈ gtb := tbI 207 (by decide +kernel)
theorem mlC_count : ML nC_count 3 := ⟨tbI 1167 (by decide +kernel), tbI 7 (by decide +kernel), ⟨by decide +kernel, by decide +kernel, by decide +kernel⟩, by decide +kernel⟩
theorem imC_count : Cond.instanceMethod (nmT nC_count) ∈ gtb := tbI 1165 (by decide +kernel)
theorem seC_count : Cond.selects (nmT nC_count).cls (nmT nC_count) (nmT nC_count) ∈ gtb := tbI 1166 (by decide +kernel)
theorem mlC_piecesOf : ML nC_piecesOf 3 := ⟨tbI 1171 (by decide +kernel), tbI 7 (by decide +kernel), ⟨by decide +kernel, by decide +kernel, by decide +kernel⟩, by decide +kernel⟩
theorem imC_piecesOf : Cond.instanceMethod (nmT nC_piecesOf) ∈ gtb := tbI 1169 (by decide +kernel)
theorem seC_piecesOf : Cond.selects (nmT nC_piecesOf).cls (nmT nC_piecesOf) (nmT nC_piecesOf) ∈ gtb := tbI 1170 (by decide +kernel)
theorem mlD_init : ML nD_init 2 := ⟨tbI 265 (by decide +kernel), tbI 10 (by decide +kernel), ⟨by decide +kernel, by decide +kernel, by decide +kernel⟩, by decide +kernel⟩
theorem imD_init : Cond.instanceMethod (nmT nD_init) ∈ gtb := tbI 264 (by decide +kernel)
theorem mlD_wasCalm : ML nD_wasCalm 0 := ⟨tbI 959 (by decide +kernel), tbI 10 (by decide +kernel), ⟨by decide +kernel, by decide +kernel, by decide +kernel⟩, by decide +kernel⟩
theorem imD_wasCalm : Cond.instanceMethod (nmT nD_wasCalm) ∈ gtb := tbI 957 (by decide +kernel)
theorem seD_wasCalm : Cond.selects (nmT nD_wasCalm).cls (nmT nD_wasCalm) (nmT nD_wasCalm) ∈ gtb := tbI 958 (by decide +kernel)
theorem mlD_speed : ML nD_speed 0 := ⟨tbI 1057 (by decide +kernel), tbI 10 (by decide +kernel), ⟨by decide +kernel, by decide +kernel, by decide +kernel⟩, by decide +kernel⟩
theorem imD_speed : Cond.instanceMethod (nmT nD_speed) ∈ gtb := tbI 1055 (by decide +kernel)
theorem seD_speed : Cond.selects (nmT nD_speed).cls (nmT nD_speed) (nmT nD_speed) ∈ gtb := tbI 1056 (by decide +kernel)
theorem mlD_pass : ML nD_pass 0 := ⟨tbI 726 (by decide +kernel), tbI 10 (by decide +kernel), ⟨by decide +kernel, by decide +kernel, by decide +kernel⟩, by decide +kernel⟩
theorem imD_pass : Cond.instanceMethod (nmT nD_pass) ∈ gtb := tbI 724 (by decide +kernel)
theorem seD_pass : Cond.selects (nmT nD_pass).cls (nmT nD_pass) (nmT nD_pass) ∈ gtb := tbI 725 (by decide +kernel)
theorem mlD_drawnWind : ML nD_drawnWind 0 := ⟨tbI 781 (by decide +kernel), tbI 10 (by decide +kernel), ⟨by decide +kernel, by decide +kernel, by decide +kernel⟩, by decide +kernel⟩
theorem imD_drawnWind : Cond.instanceMethod (nmT nD_drawnWind) ∈ gtb := tbI 780 (by decide +kernel)
theorem seD_drawnWind : Cond.selects (nmT nD_drawnWind).cls (nmT nD_drawnWind) (nmT nD_drawnWind) ∈ gtb := tbS 28 (by decide +kernel)
theorem mlD_drawX : ML nD_drawX 0 := ⟨tbI 794 (by decide +kernel), tbI 10 (by decide +kernel), ⟨by decide +kernel, by decide +kernel, by decide +kernel⟩, by decide +kernel⟩
theorem imD_drawX : Cond.instanceMethod (nmT nD_drawX) ∈ gtb := tbI 793 (by decide +kernel)
theorem seD_drawX : Cond.selects (nmT nD_drawX).cls (nmT nD_drawX) (nmT nD_drawX) ∈ gtb := tbS 29 (by decide +kernel)
theorem mlD_payByHand : ML nD_payByHand 3 := ⟨tbI 669 (by decide +kernel), tbI 10 (by decide +kernel), ⟨by decide +kernel, by decide +kernel, by decide +kernel⟩, by decide +kernel⟩
theorem imD_payByHand : Cond.instanceMethod (nmT nD_payByHand) ∈ gtb := tbI 667 (by decide +kernel)
theorem seD_payByHand : Cond.selects (nmT nD_payByHand).cls (nmT nD_payByHand) (nmT nD_payByHand) ∈ gtb := tbI 668 (by decide +kernel)
theorem mlD_canPay : ML nD_canPay 3 := ⟨tbI 673 (by decide +kernel), tbI 10 (by decide +kernel), ⟨by decide +kernel, by decide +kernel, by decide +kernel⟩, by decide +kernel⟩
theorem imD_canPay : Cond.instanceMethod (nmT nD_canPay) ∈ gtb := tbI 672 (by decide +kernel)
theorem seD_canPay : Cond.selects (nmT nD_canPay).cls (nmT nD_canPay) (nmT nD_canPay) ∈ gtb := tbS 20 (by decide +kernel)
theorem mlD_payNow : ML nD_payNow 3 := ⟨tbI 693 (by decide +kernel), tbI 10 (by decide +kernel), ⟨by decide +kernel, by decide +kernel, by decide +kernel⟩, by decide +kernel⟩
theorem imD_payNow : Cond.instanceMethod (nmT nD_payNow) ∈ gtb := tbI 692 (by decide +kernel)
theorem seD_payNow : Cond.selects (nmT nD_payNow).cls (nmT nD_payNow) (nmT nD_payNow) ∈ gtb := tbS 21 (by decide +kernel)
theorem mlD_mergeByHand : ML nD_mergeByHand 2 := ⟨tbI 701 (by decide +kernel), tbI 10 (by decide +kernel), ⟨by decide +kernel, by decide +kernel, by decide +kernel⟩, by decide +kernel⟩
theorem imD_mergeByHand : Cond.instanceMethod (nmT nD_mergeByHand) ∈ gtb := tbI 699 (by decide +kernel)
theorem seD_mergeByHand : Cond.selects (nmT nD_mergeByHand).cls (nmT nD_mergeByHand) (nmT nD_mergeByHand) ∈ gtb := tbI 700 (by decide +kernel)
theorem mlD_canMerge : ML nD_canMerge 2 := ⟨tbI 705 (by decide +kernel), tbI 10 (by decide +kernel), ⟨by decide +kernel, by decide +kernel, by decide +kernel⟩, by decide +kernel⟩
theorem imD_canMerge : Cond.instanceMethod (nmT nD_canMerge) ∈ gtb := tbI 704 (by decide +kernel)
theorem seD_canMerge : Cond.selects (nmT nD_canMerge).cls (nmT nD_canMerge) (nmT nD_canMerge) ∈ gtb := tbS 22 (by decide +kernel)
theorem mlD_mergeNow : ML nD_mergeNow 2 := ⟨tbI 709 (by decide +kernel), tbI 10 (by decide +kernel), ⟨by decide +kernel, by decide +kernel, by decide +kernel⟩, by decide +kernel⟩
theorem imD_mergeNow : Cond.instanceMethod (nmT nD_mergeNow) ∈ gtb := tbI 708 (by decide +kernel)
theorem seD_mergeNow : Cond.selects (nmT nD_mergeNow).cls (nmT nD_mergeNow) (nmT nD_mergeNow) ∈ gtb := tbS 23 (by decide +kernel)
theorem mlD_passYears : ML nD_passYears 2 := ⟨tbI 842 (by decide +kernel), tbI 10 (by decide +kernel), ⟨by decide +kernel, by decide +kernel, by decide +kernel⟩, by decide +kernel⟩
theorem imD_passYears : Cond.instanceMethod (nmT nD_passYears) ∈ gtb := tbI 840 (by decide +kernel)
theorem seD_passYears : Cond.selects (nmT nD_passYears).cls (nmT nD_passYears) (nmT nD_passYears) ∈ gtb := tbI 841 (by decide +kernel)
theorem mlD_payByChance : ML nD_payByChance 1 := ⟨tbI 846 (by decide +kernel), tbI 10 (by decide +kernel), ⟨by decide +kernel, by decide +kernel, by decide +kernel⟩, by decide +kernel⟩
theorem imD_payByChance : Cond.instanceMethod (nmT nD_payByChance) ∈ gtb := tbI 845 (by decide +kernel)
theorem seD_payByChance : Cond.selects (nmT nD_payByChance).cls (nmT nD_payByChance) (nmT nD_payByChance) ∈ gtb := tbS 31 (by decide +kernel)
theorem mlD_mergeByChance : ML nD_mergeByChance 1 := ⟨tbI 850 (by decide +kernel), tbI 10 (by decide +kernel), ⟨by decide +kernel, by decide +kernel, by decide +kernel⟩, by decide +kernel⟩
theorem imD_mergeByChance : Cond.instanceMethod (nmT nD_mergeByChance) ∈ gtb := tbI 849 (by decide +kernel)
theorem seD_mergeByChance : Cond.selects (nmT nD_mergeByChance).cls (nmT nD_mergeByChance) (nmT nD_mergeByChance) ∈ gtb := tbS 32 (by decide +kernel)
theorem mlD_play : ML nD_play 1 := ⟨tbI 823 (by decide +kernel), tbI 10 (by decide +kernel), ⟨by decide +kernel, by decide +kernel, by decide +kernel⟩, by decide +kernel⟩
theorem imD_play : Cond.instanceMethod (nmT nD_play) ∈ gtb := tbI 821 (by decide +kernel)
theorem seD_play : Cond.selects (nmT nD_play).cls (nmT nD_play) (nmT nD_play) ∈ gtb := tbI 822 (by decide +kernel)
theorem mlD_perform : ML nD_perform 4 := ⟨tbI 827 (by decide +kernel), tbI 10 (by decide +kernel), ⟨by decide +kernel, by decide +kernel, by decide +kernel⟩, by decide +kernel⟩
theorem imD_perform : Cond.instanceMethod (nmT nD_perform) ∈ gtb := tbI 826 (by decide +kernel)
theorem seD_perform : Cond.selects (nmT nD_perform).cls (nmT nD_perform) (nmT nD_perform) ∈ gtb := tbS 30 (by decide +kernel)
theorem mlF_init : ML nF_init 2 := ⟨tbI 289 (by decide +kernel), tbI 11 (by decide +kernel), ⟨by decide +kernel, by decide +kernel, by decide +kernel⟩, by decide +kernel⟩
theorem imF_init : Cond.instanceMethod (nmT nF_init) ∈ gtb := tbI 288 (by decide +kernel)
theorem mlF_keepNow : ML nF_keepNow 0 := ⟨tbI 918 (by decide +kernel), tbI 11 (by decide +kernel), ⟨by decide +kernel, by decide +kernel, by decide +kernel⟩, by decide +kernel⟩
theorem imF_keepNow : Cond.instanceMethod (nmT nF_keepNow) ∈ gtb := tbI 917 (by decide +kernel)
theorem seF_keepNow : Cond.selects (nmT nF_keepNow).cls (nmT nF_keepNow) (nmT nF_keepNow) ∈ gtb := tbS 33 (by decide +kernel)
theorem mlF_giveBack : ML nF_giveBack 0 := ⟨tbI 935 (by decide +kernel), tbI 11 (by decide +kernel), ⟨by decide +kernel, by decide +kernel, by decide +kernel⟩, by decide +kernel⟩
theorem imF_giveBack : Cond.instanceMethod (nmT nF_giveBack) ∈ gtb := tbI 934 (by decide +kernel)
theorem seF_giveBack : Cond.selects (nmT nF_giveBack).cls (nmT nF_giveBack) (nmT nF_giveBack) ∈ gtb := tbS 36 (by decide +kernel)
theorem mlF_canPass : ML nF_canPass 1 := ⟨tbI 928 (by decide +kernel), tbI 11 (by decide +kernel), ⟨by decide +kernel, by decide +kernel, by decide +kernel⟩, by decide +kernel⟩
theorem imF_canPass : Cond.instanceMethod (nmT nF_canPass) ∈ gtb := tbI 927 (by decide +kernel)
theorem seF_canPass : Cond.selects (nmT nF_canPass).cls (nmT nF_canPass) (nmT nF_canPass) ∈ gtb := tbS 35 (by decide +kernel)
theorem mlF_takenUpTo : ML nF_takenUpTo 2 := ⟨tbI 924 (by decide +kernel), tbI 11 (by decide +kernel), ⟨by decide +kernel, by decide +kernel, by decide +kernel⟩, by decide +kernel⟩
theorem imF_takenUpTo : Cond.instanceMethod (nmT nF_takenUpTo) ∈ gtb := tbI 923 (by decide +kernel)
theorem seF_takenUpTo : Cond.selects (nmT nF_takenUpTo).cls (nmT nF_takenUpTo) (nmT nF_takenUpTo) ∈ gtb := tbS 34 (by decide +kernel)
theorem mlF_taken : ML nF_taken 1 := ⟨tbI 914 (by decide +kernel), tbI 11 (by decide +kernel), ⟨by decide +kernel, by decide +kernel, by decide +kernel⟩, by decide +kernel⟩
theorem imF_taken : Cond.instanceMethod (nmT nF_taken) ∈ gtb := tbI 912 (by decide +kernel)
theorem seF_taken : Cond.selects (nmT nF_taken).cls (nmT nF_taken) (nmT nF_taken) ∈ gtb := tbI 913 (by decide +kernel)
theorem mlF_later : ML nF_later 2 := ⟨tbI 943 (by decide +kernel), tbI 11 (by decide +kernel), ⟨by decide +kernel, by decide +kernel, by decide +kernel⟩, by decide +kernel⟩
theorem imF_later : Cond.instanceMethod (nmT nF_later) ∈ gtb := tbI 941 (by decide +kernel)
theorem seF_later : Cond.selects (nmT nF_later).cls (nmT nF_later) (nmT nF_later) ∈ gtb := tbI 942 (by decide +kernel)
theorem mlF_daysToArrears : ML nF_daysToArrears 0 := ⟨tbI 955 (by decide +kernel), tbI 11 (by decide +kernel), ⟨by decide +kernel, by decide +kernel, by decide +kernel⟩, by decide +kernel⟩
theorem imF_daysToArrears : Cond.instanceMethod (nmT nF_daysToArrears) ∈ gtb := tbI 953 (by decide +kernel)
theorem seF_daysToArrears : Cond.selects (nmT nF_daysToArrears).cls (nmT nF_daysToArrears) (nmT nF_daysToArrears) ∈ gtb := tbI 954 (by decide +kernel)
theorem mlF_isAnyOwed : ML nF_isAnyOwed 0 := ⟨tbI 963 (by decide +kernel), tbI 11 (by decide +kernel), ⟨by decide +kernel, by decide +kernel, by decide +kernel⟩, by decide +kernel⟩
theorem imF_isAnyOwed : Cond.instanceMethod (nmT nF_isAnyOwed) ∈ gtb := tbI 962 (by decide +kernel)
theorem seF_isAnyOwed : Cond.selects (nmT nF_isAnyOwed).cls (nmT nF_isAnyOwed) (nmT nF_isAnyOwed) ∈ gtb := tbS 37 (by decide +kernel)
theorem mlF_isOwed : ML nF_isOwed 1 := ⟨tbI 967 (by decide +kernel), tbI 11 (by decide +kernel), ⟨by decide +kernel, by decide +kernel, by decide +kernel⟩, by decide +kernel⟩
theorem imF_isOwed : Cond.instanceMethod (nmT nF_isOwed) ∈ gtb := tbI 966 (by decide +kernel)
theorem seF_isOwed : Cond.selects (nmT nF_isOwed).cls (nmT nF_isOwed) (nmT nF_isOwed) ∈ gtb := tbS 38 (by decide +kernel)
theorem mlF_daysToBroke : ML nF_daysToBroke 1 := ⟨tbI 976 (by decide +kernel), tbI 11 (by decide +kernel), ⟨by decide +kernel, by decide +kernel, by decide +kernel⟩, by decide +kernel⟩
theorem imF_daysToBroke : Cond.instanceMethod (nmT nF_daysToBroke) ∈ gtb := tbI 974 (by decide +kernel)
theorem seF_daysToBroke : Cond.selects (nmT nF_daysToBroke).cls (nmT nF_daysToBroke) (nmT nF_daysToBroke) ∈ gtb := tbI 975 (by decide +kernel)
theorem mlF_mildestText : ML nF_mildestText 1 := ⟨tbI 984 (by decide +kernel), tbI 11 (by decide +kernel), ⟨by decide +kernel, by decide +kernel, by decide +kernel⟩, by decide +kernel⟩
theorem imF_mildestText : Cond.instanceMethod (nmT nF_mildestText) ∈ gtb := tbI 982 (by decide +kernel)
theorem seF_mildestText : Cond.selects (nmT nF_mildestText).cls (nmT nF_mildestText) (nmT nF_mildestText) ∈ gtb := tbI 983 (by decide +kernel)
theorem mlF_findLeast : ML nF_findLeast 2 := ⟨tbI 1007 (by decide +kernel), tbI 11 (by decide +kernel), ⟨by decide +kernel, by decide +kernel, by decide +kernel⟩, by decide +kernel⟩
theorem imF_findLeast : Cond.instanceMethod (nmT nF_findLeast) ∈ gtb := tbI 1005 (by decide +kernel)
theorem seF_findLeast : Cond.selects (nmT nF_findLeast).cls (nmT nF_findLeast) (nmT nF_findLeast) ∈ gtb := tbI 1006 (by decide +kernel)
theorem mlF_penceFor : ML nF_penceFor 1 := ⟨tbI 1011 (by decide +kernel), tbI 11 (by decide +kernel), ⟨by decide +kernel, by decide +kernel, by decide +kernel⟩, by decide +kernel⟩
theorem imF_penceFor : Cond.instanceMethod (nmT nF_penceFor) ∈ gtb := tbI 1010 (by decide +kernel)
theorem seF_penceFor : Cond.selects (nmT nF_penceFor).cls (nmT nF_penceFor) (nmT nF_penceFor) ∈ gtb := tbS 40 (by decide +kernel)
theorem mlF_payOff : ML nF_payOff 1 := ⟨tbI 1015 (by decide +kernel), tbI 11 (by decide +kernel), ⟨by decide +kernel, by decide +kernel, by decide +kernel⟩, by decide +kernel⟩
theorem imF_payOff : Cond.instanceMethod (nmT nF_payOff) ∈ gtb := tbI 1014 (by decide +kernel)
theorem seF_payOff : Cond.selects (nmT nF_payOff).cls (nmT nF_payOff) (nmT nF_payOff) ∈ gtb := tbS 41 (by decide +kernel)
theorem mlF_countCalms : ML nF_countCalms 1 := ⟨tbI 1179 (by decide +kernel), tbI 11 (by decide +kernel), ⟨by decide +kernel, by decide +kernel, by decide +kernel⟩, by decide +kernel⟩
theorem imF_countCalms : Cond.instanceMethod (nmT nF_countCalms) ∈ gtb := tbI 1177 (by decide +kernel)
theorem seF_countCalms : Cond.selects (nmT nF_countCalms).cls (nmT nF_countCalms) (nmT nF_countCalms) ∈ gtb := tbI 1178 (by decide +kernel)
theorem mlF_setOut : ML nF_setOut 1 := ⟨tbI 1049 (by decide +kernel), tbI 11 (by decide +kernel), ⟨by decide +kernel, by decide +kernel, by decide +kernel⟩, by decide +kernel⟩
theorem imF_setOut : Cond.instanceMethod (nmT nF_setOut) ∈ gtb := tbI 1047 (by decide +kernel)
theorem seF_setOut : Cond.selects (nmT nF_setOut).cls (nmT nF_setOut) (nmT nF_setOut) ∈ gtb := tbI 1048 (by decide +kernel)
theorem mlF_foreseeSpeeds : ML nF_foreseeSpeeds 0 := ⟨tbI 1053 (by decide +kernel), tbI 11 (by decide +kernel), ⟨by decide +kernel, by decide +kernel, by decide +kernel⟩, by decide +kernel⟩
theorem imF_foreseeSpeeds : Cond.instanceMethod (nmT nF_foreseeSpeeds) ∈ gtb := tbI 1052 (by decide +kernel)
theorem seF_foreseeSpeeds : Cond.selects (nmT nF_foreseeSpeeds).cls (nmT nF_foreseeSpeeds) (nmT nF_foreseeSpeeds) ∈ gtb := tbS 42 (by decide +kernel)
theorem mlF_arrival : ML nF_arrival 2 := ⟨tbI 1061 (by decide +kernel), tbI 11 (by decide +kernel), ⟨by decide +kernel, by decide +kernel, by decide +kernel⟩, by decide +kernel⟩
theorem imF_arrival : Cond.instanceMethod (nmT nF_arrival) ∈ gtb := tbI 1060 (by decide +kernel)
theorem seF_arrival : Cond.selects (nmT nF_arrival).cls (nmT nF_arrival) (nmT nF_arrival) ∈ gtb := tbS 43 (by decide +kernel)
theorem mlF_isReached : ML nF_isReached 1 := ⟨tbI 1069 (by decide +kernel), tbI 11 (by decide +kernel), ⟨by decide +kernel, by decide +kernel, by decide +kernel⟩, by decide +kernel⟩
theorem imF_isReached : Cond.instanceMethod (nmT nF_isReached) ∈ gtb := tbI 1067 (by decide +kernel)
theorem seF_isReached : Cond.selects (nmT nF_isReached).cls (nmT nF_isReached) (nmT nF_isReached) ∈ gtb := tbI 1068 (by decide +kernel)
theorem mlF_lastAhead : ML nF_lastAhead 1 := ⟨tbI 1073 (by decide +kernel), tbI 11 (by decide +kernel), ⟨by decide +kernel, by decide +kernel, by decide +kernel⟩, by decide +kernel⟩
theorem imF_lastAhead : Cond.instanceMethod (nmT nF_lastAhead) ∈ gtb := tbI 1071 (by decide +kernel)
theorem seF_lastAhead : Cond.selects (nmT nF_lastAhead).cls (nmT nF_lastAhead) (nmT nF_lastAhead) ∈ gtb := tbI 1072 (by decide +kernel)
theorem mlQ_init : ML nQ_init 0 := ⟨tbI 193 (by decide +kernel), tbI 6 (by decide +kernel), ⟨by decide +kernel, by decide +kernel, by decide +kernel⟩, by decide +kernel⟩
theorem imQ_init : Cond.instanceMethod (nmT nQ_init) ∈ gtb := tbI 192 (by decide +kernel)
theorem mlQ_set : ML nQ_set 2 := ⟨tbI 999 (by decide +kernel), tbI 6 (by decide +kernel), ⟨by decide +kernel, by decide +kernel, by decide +kernel⟩, by decide +kernel⟩
theorem imQ_set : Cond.instanceMethod (nmT nQ_set) ∈ gtb := tbI 998 (by decide +kernel)
theorem seQ_set : Cond.selects (nmT nQ_set).cls (nmT nQ_set) (nmT nQ_set) ∈ gtb := tbS 39 (by decide +kernel)
theorem mlQ_setOdds : ML nQ_setOdds 3 := ⟨tbI 993 (by decide +kernel), tbI 6 (by decide +kernel), ⟨by decide +kernel, by decide +kernel, by decide +kernel⟩, by decide +kernel⟩
theorem imQ_setOdds : Cond.instanceMethod (nmT nQ_setOdds) ∈ gtb := tbI 991 (by decide +kernel)
theorem seQ_setOdds : Cond.selects (nmT nQ_setOdds).cls (nmT nQ_setOdds) (nmT nQ_setOdds) ∈ gtb := tbI 992 (by decide +kernel)
theorem mlQ_setShare : ML nQ_setShare 3 := ⟨tbI 1034 (by decide +kernel), tbI 6 (by decide +kernel), ⟨by decide +kernel, by decide +kernel, by decide +kernel⟩, by decide +kernel⟩
theorem imQ_setShare : Cond.instanceMethod (nmT nQ_setShare) ∈ gtb := tbI 1032 (by decide +kernel)
theorem seQ_setShare : Cond.selects (nmT nQ_setShare).cls (nmT nQ_setShare) (nmT nQ_setShare) ∈ gtb := tbI 1033 (by decide +kernel)
theorem mlQ_mostOf : ML nQ_mostOf 2 := ⟨tbI 1040 (by decide +kernel), tbI 6 (by decide +kernel), ⟨by decide +kernel, by decide +kernel, by decide +kernel⟩, by decide +kernel⟩
theorem stQ_mostOf : Cond.static (nmT nQ_mostOf) ∈ gtb := tbI 1039 (by decide +kernel)
theorem mlL_init : ML nL_init 2 := ⟨tbI 249 (by decide +kernel), tbI 9 (by decide +kernel), ⟨by decide +kernel, by decide +kernel, by decide +kernel⟩, by decide +kernel⟩
theorem imL_init : Cond.instanceMethod (nmT nL_init) ∈ gtb := tbI 248 (by decide +kernel)
theorem mlL_comesOf : ML nL_comesOf 1 := ⟨tbI 799 (by decide +kernel), tbI 9 (by decide +kernel), ⟨by decide +kernel, by decide +kernel, by decide +kernel⟩, by decide +kernel⟩
theorem imL_comesOf : Cond.instanceMethod (nmT nL_comesOf) ∈ gtb := tbI 797 (by decide +kernel)
theorem seL_comesOf : Cond.selects (nmT nL_comesOf).cls (nmT nL_comesOf) (nmT nL_comesOf) ∈ gtb := tbI 798 (by decide +kernel)
theorem mlL_blowsOf : ML nL_blowsOf 1 := ⟨tbI 803 (by decide +kernel), tbI 9 (by decide +kernel), ⟨by decide +kernel, by decide +kernel, by decide +kernel⟩, by decide +kernel⟩
theorem imL_blowsOf : Cond.instanceMethod (nmT nL_blowsOf) ∈ gtb := tbI 801 (by decide +kernel)
theorem seL_blowsOf : Cond.selects (nmT nL_blowsOf).cls (nmT nL_blowsOf) (nmT nL_blowsOf) ∈ gtb := tbI 802 (by decide +kernel)
theorem mlL_duesOf : ML nL_duesOf 1 := ⟨tbI 730 (by decide +kernel), tbI 9 (by decide +kernel), ⟨by decide +kernel, by decide +kernel, by decide +kernel⟩, by decide +kernel⟩
theorem imL_duesOf : Cond.instanceMethod (nmT nL_duesOf) ∈ gtb := tbI 728 (by decide +kernel)
theorem seL_duesOf : Cond.selects (nmT nL_duesOf).cls (nmT nL_duesOf) (nmT nL_duesOf) ∈ gtb := tbI 729 (by decide +kernel)
theorem mlL_takesOf : ML nL_takesOf 3 := ⟨tbI 807 (by decide +kernel), tbI 9 (by decide +kernel), ⟨by decide +kernel, by decide +kernel, by decide +kernel⟩, by decide +kernel⟩
theorem imL_takesOf : Cond.instanceMethod (nmT nL_takesOf) ∈ gtb := tbI 805 (by decide +kernel)
theorem seL_takesOf : Cond.selects (nmT nL_takesOf).cls (nmT nL_takesOf) (nmT nL_takesOf) ∈ gtb := tbI 806 (by decide +kernel)
theorem mlL_catchOf : ML nL_catchOf 3 := ⟨tbI 811 (by decide +kernel), tbI 9 (by decide +kernel), ⟨by decide +kernel, by decide +kernel, by decide +kernel⟩, by decide +kernel⟩
theorem imL_catchOf : Cond.instanceMethod (nmT nL_catchOf) ∈ gtb := tbI 809 (by decide +kernel)
theorem seL_catchOf : Cond.selects (nmT nL_catchOf).cls (nmT nL_catchOf) (nmT nL_catchOf) ∈ gtb := tbI 810 (by decide +kernel)
theorem mlL_rulingOn : ML nL_rulingOn 1 := ⟨tbI 734 (by decide +kernel), tbI 9 (by decide +kernel), ⟨by decide +kernel, by decide +kernel, by decide +kernel⟩, by decide +kernel⟩
theorem imL_rulingOn : Cond.instanceMethod (nmT nL_rulingOn) ∈ gtb := tbI 733 (by decide +kernel)
theorem seL_rulingOn : Cond.selects (nmT nL_rulingOn).cls (nmT nL_rulingOn) (nmT nL_rulingOn) ∈ gtb := tbS 24 (by decide +kernel)
theorem mlL_within : ML nL_within 2 := ⟨tbI 775 (by decide +kernel), tbI 9 (by decide +kernel), ⟨by decide +kernel, by decide +kernel, by decide +kernel⟩, by decide +kernel⟩
theorem stL_within : Cond.static (nmT nL_within) ∈ gtb := tbI 774 (by decide +kernel)
theorem mlL_reckoned : ML nL_reckoned 5 := ⟨tbI 740 (by decide +kernel), tbI 9 (by decide +kernel), ⟨by decide +kernel, by decide +kernel, by decide +kernel⟩, by decide +kernel⟩
theorem imL_reckoned : Cond.instanceMethod (nmT nL_reckoned) ∈ gtb := tbI 739 (by decide +kernel)
theorem seL_reckoned : Cond.selects (nmT nL_reckoned).cls (nmT nL_reckoned) (nmT nL_reckoned) ∈ gtb := tbS 25 (by decide +kernel)
theorem mlL_named : ML nL_named 4 := ⟨tbI 744 (by decide +kernel), tbI 9 (by decide +kernel), ⟨by decide +kernel, by decide +kernel, by decide +kernel⟩, by decide +kernel⟩
theorem imL_named : Cond.instanceMethod (nmT nL_named) ∈ gtb := tbI 743 (by decide +kernel)
theorem seL_named : Cond.selects (nmT nL_named).cls (nmT nL_named) (nmT nL_named) ∈ gtb := tbS 26 (by decide +kernel)
theorem mlL_ofOne : ML nL_ofOne 2 := ⟨tbI 748 (by decide +kernel), tbI 9 (by decide +kernel), ⟨by decide +kernel, by decide +kernel, by decide +kernel⟩, by decide +kernel⟩
theorem imL_ofOne : Cond.instanceMethod (nmT nL_ofOne) ∈ gtb := tbI 747 (by decide +kernel)
theorem seL_ofOne : Cond.selects (nmT nL_ofOne).cls (nmT nL_ofOne) (nmT nL_ofOne) ∈ gtb := tbS 27 (by decide +kernel)
theorem mlL_ofTwo : ML nL_ofTwo 3 := ⟨tbI 764 (by decide +kernel), tbI 9 (by decide +kernel), ⟨by decide +kernel, by decide +kernel, by decide +kernel⟩, by decide +kernel⟩
theorem stL_ofTwo : Cond.static (nmT nL_ofTwo) ∈ gtb := tbI 763 (by decide +kernel)
theorem mlL_nearest : ML nL_nearest 2 := ⟨tbI 758 (by decide +kernel), tbI 9 (by decide +kernel), ⟨by decide +kernel, by decide +kernel, by decide +kernel⟩, by decide +kernel⟩
theorem stL_nearest : Cond.static (nmT nL_nearest) ∈ gtb := tbI 757 (by decide +kernel)
theorem mlR_init : ML nR_init 1 := ⟨tbI 135 (by decide +kernel), tbI 3 (by decide +kernel), ⟨by decide +kernel, by decide +kernel, by decide +kernel⟩, by decide +kernel⟩
theorem imR_init : Cond.instanceMethod (nmT nR_init) ∈ gtb := tbI 134 (by decide +kernel)
theorem mlR_read : ML nR_read 2 := ⟨tbI 444 (by decide +kernel), tbI 3 (by decide +kernel), ⟨by decide +kernel, by decide +kernel, by decide +kernel⟩, by decide +kernel⟩
theorem imR_read : Cond.instanceMethod (nmT nR_read) ∈ gtb := tbI 442 (by decide +kernel)
theorem seR_read : Cond.selects (nmT nR_read).cls (nmT nR_read) (nmT nR_read) ∈ gtb := tbI 443 (by decide +kernel)
theorem mlR_blame : ML nR_blame 1 := ⟨tbI 535 (by decide +kernel), tbI 3 (by decide +kernel), ⟨by decide +kernel, by decide +kernel, by decide +kernel⟩, by decide +kernel⟩
theorem imR_blame : Cond.instanceMethod (nmT nR_blame) ∈ gtb := tbI 534 (by decide +kernel)
theorem seR_blame : Cond.selects (nmT nR_blame).cls (nmT nR_blame) (nmT nR_blame) ∈ gtb := tbS 6 (by decide +kernel)
theorem mlR_blameClause : ML nR_blameClause 1 := ⟨tbI 531 (by decide +kernel), tbI 3 (by decide +kernel), ⟨by decide +kernel, by decide +kernel, by decide +kernel⟩, by decide +kernel⟩
theorem imR_blameClause : Cond.instanceMethod (nmT nR_blameClause) ∈ gtb := tbI 530 (by decide +kernel)
theorem seR_blameClause : Cond.selects (nmT nR_blameClause).cls (nmT nR_blameClause) (nmT nR_blameClause) ∈ gtb := tbS 5 (by decide +kernel)
theorem mlR_readDeed : ML nR_readDeed 1 := ⟨tbI 633 (by decide +kernel), tbI 3 (by decide +kernel), ⟨by decide +kernel, by decide +kernel, by decide +kernel⟩, by decide +kernel⟩
theorem imR_readDeed : Cond.instanceMethod (nmT nR_readDeed) ∈ gtb := tbI 632 (by decide +kernel)
theorem seR_readDeed : Cond.selects (nmT nR_readDeed).cls (nmT nR_readDeed) (nmT nR_readDeed) ∈ gtb := tbS 17 (by decide +kernel)
theorem mlR_expect : ML nR_expect 1 := ⟨tbI 643 (by decide +kernel), tbI 3 (by decide +kernel), ⟨by decide +kernel, by decide +kernel, by decide +kernel⟩, by decide +kernel⟩
theorem imR_expect : Cond.instanceMethod (nmT nR_expect) ∈ gtb := tbI 642 (by decide +kernel)
theorem seR_expect : Cond.selects (nmT nR_expect).cls (nmT nR_expect) (nmT nR_expect) ∈ gtb := tbS 19 (by decide +kernel)
theorem mlR_expectNumber : ML nR_expectNumber 2 := ⟨tbI 637 (by decide +kernel), tbI 3 (by decide +kernel), ⟨by decide +kernel, by decide +kernel, by decide +kernel⟩, by decide +kernel⟩
theorem imR_expectNumber : Cond.instanceMethod (nmT nR_expectNumber) ∈ gtb := tbI 636 (by decide +kernel)
theorem seR_expectNumber : Cond.selects (nmT nR_expectNumber).cls (nmT nR_expectNumber) (nmT nR_expectNumber) ∈ gtb := tbS 18 (by decide +kernel)
theorem mlR_readLaw : ML nR_readLaw 1 := ⟨tbI 543 (by decide +kernel), tbI 3 (by decide +kernel), ⟨by decide +kernel, by decide +kernel, by decide +kernel⟩, by decide +kernel⟩
theorem imR_readLaw : Cond.instanceMethod (nmT nR_readLaw) ∈ gtb := tbI 542 (by decide +kernel)
theorem seR_readLaw : Cond.selects (nmT nR_readLaw).cls (nmT nR_readLaw) (nmT nR_readLaw) ∈ gtb := tbS 7 (by decide +kernel)
theorem mlR_top : ML nR_top 0 := ⟨tbI 563 (by decide +kernel), tbI 3 (by decide +kernel), ⟨by decide +kernel, by decide +kernel, by decide +kernel⟩, by decide +kernel⟩
theorem imR_top : Cond.instanceMethod (nmT nR_top) ∈ gtb := tbI 562 (by decide +kernel)
theorem seR_top : Cond.selects (nmT nR_top).cls (nmT nR_top) (nmT nR_top) ∈ gtb := tbS 10 (by decide +kernel)
theorem mlR_push : ML nR_push 1 := ⟨tbI 589 (by decide +kernel), tbI 3 (by decide +kernel), ⟨by decide +kernel, by decide +kernel, by decide +kernel⟩, by decide +kernel⟩
theorem imR_push : Cond.instanceMethod (nmT nR_push) ∈ gtb := tbI 588 (by decide +kernel)
theorem seR_push : Cond.selects (nmT nR_push).cls (nmT nR_push) (nmT nR_push) ∈ gtb := tbS 12 (by decide +kernel)
theorem mlR_isAtAsk : ML nR_isAtAsk 0 := ⟨tbI 597 (by decide +kernel), tbI 3 (by decide +kernel), ⟨by decide +kernel, by decide +kernel, by decide +kernel⟩, by decide +kernel⟩
theorem imR_isAtAsk : Cond.instanceMethod (nmT nR_isAtAsk) ∈ gtb := tbI 596 (by decide +kernel)
theorem seR_isAtAsk : Cond.selects (nmT nR_isAtAsk).cls (nmT nR_isAtAsk) (nmT nR_isAtAsk) ∈ gtb := tbS 13 (by decide +kernel)
theorem mlR_readOne : ML nR_readOne 0 := ⟨tbI 551 (by decide +kernel), tbI 3 (by decide +kernel), ⟨by decide +kernel, by decide +kernel, by decide +kernel⟩, by decide +kernel⟩
theorem imR_readOne : Cond.instanceMethod (nmT nR_readOne) ∈ gtb := tbI 550 (by decide +kernel)
theorem seR_readOne : Cond.selects (nmT nR_readOne).cls (nmT nR_readOne) (nmT nR_readOne) ∈ gtb := tbS 8 (by decide +kernel)
theorem mlR_openOne : ML nR_openOne 1 := ⟨tbI 585 (by decide +kernel), tbI 3 (by decide +kernel), ⟨by decide +kernel, by decide +kernel, by decide +kernel⟩, by decide +kernel⟩
theorem imR_openOne : Cond.instanceMethod (nmT nR_openOne) ∈ gtb := tbI 584 (by decide +kernel)
theorem seR_openOne : Cond.selects (nmT nR_openOne).cls (nmT nR_openOne) (nmT nR_openOne) ∈ gtb := tbS 11 (by decide +kernel)
theorem mlR_closeOne : ML nR_closeOne 0 := ⟨tbI 559 (by decide +kernel), tbI 3 (by decide +kernel), ⟨by decide +kernel, by decide +kernel, by decide +kernel⟩, by decide +kernel⟩
theorem imR_closeOne : Cond.instanceMethod (nmT nR_closeOne) ∈ gtb := tbI 558 (by decide +kernel)
theorem seR_closeOne : Cond.selects (nmT nR_closeOne).cls (nmT nR_closeOne) (nmT nR_closeOne) ∈ gtb := tbS 9 (by decide +kernel)
theorem mlR_readBehindOne : ML nR_readBehindOne 0 := ⟨tbI 605 (by decide +kernel), tbI 3 (by decide +kernel), ⟨by decide +kernel, by decide +kernel, by decide +kernel⟩, by decide +kernel⟩
theorem imR_readBehindOne : Cond.instanceMethod (nmT nR_readBehindOne) ∈ gtb := tbI 604 (by decide +kernel)
theorem seR_readBehindOne : Cond.selects (nmT nR_readBehindOne).cls (nmT nR_readBehindOne) (nmT nR_readBehindOne) ∈ gtb := tbS 14 (by decide +kernel)
theorem mlR_readBehindSum : ML nR_readBehindSum 0 := ⟨tbI 613 (by decide +kernel), tbI 3 (by decide +kernel), ⟨by decide +kernel, by decide +kernel, by decide +kernel⟩, by decide +kernel⟩
theorem imR_readBehindSum : Cond.instanceMethod (nmT nR_readBehindSum) ∈ gtb := tbI 612 (by decide +kernel)
theorem seR_readBehindSum : Cond.selects (nmT nR_readBehindSum).cls (nmT nR_readBehindSum) (nmT nR_readBehindSum) ∈ gtb := tbS 16 (by decide +kernel)
theorem mlR_putDownTo : ML nR_putDownTo 1 := ⟨tbI 609 (by decide +kernel), tbI 3 (by decide +kernel), ⟨by decide +kernel, by decide +kernel, by decide +kernel⟩, by decide +kernel⟩
theorem imR_putDownTo : Cond.instanceMethod (nmT nR_putDownTo) ∈ gtb := tbI 608 (by decide +kernel)
theorem seR_putDownTo : Cond.selects (nmT nR_putDownTo).cls (nmT nR_putDownTo) (nmT nR_putDownTo) ∈ gtb := tbS 15 (by decide +kernel)
theorem mlR_advance : ML nR_advance 0 := ⟨tbI 455 (by decide +kernel), tbI 3 (by decide +kernel), ⟨by decide +kernel, by decide +kernel, by decide +kernel⟩, by decide +kernel⟩
theorem imR_advance : Cond.instanceMethod (nmT nR_advance) ∈ gtb := tbI 454 (by decide +kernel)
theorem seR_advance : Cond.selects (nmT nR_advance).cls (nmT nR_advance) (nmT nR_advance) ∈ gtb := tbS 1 (by decide +kernel)
theorem mlR_readNumber : ML nR_readNumber 0 := ⟨tbI 525 (by decide +kernel), tbI 3 (by decide +kernel), ⟨by decide +kernel, by decide +kernel, by decide +kernel⟩, by decide +kernel⟩
theorem imR_readNumber : Cond.instanceMethod (nmT nR_readNumber) ∈ gtb := tbI 524 (by decide +kernel)
theorem seR_readNumber : Cond.selects (nmT nR_readNumber).cls (nmT nR_readNumber) (nmT nR_readNumber) ∈ gtb := tbS 4 (by decide +kernel)
theorem mlR_isLetter : ML nR_isLetter 1 := ⟨tbI 458 (by decide +kernel), tbI 3 (by decide +kernel), ⟨by decide +kernel, by decide +kernel, by decide +kernel⟩, by decide +kernel⟩
theorem stR_isLetter : Cond.static (nmT nR_isLetter) ∈ gtb := tbI 457 (by decide +kernel)
theorem mlR_isDigit : ML nR_isDigit 1 := ⟨tbI 521 (by decide +kernel), tbI 3 (by decide +kernel), ⟨by decide +kernel, by decide +kernel, by decide +kernel⟩, by decide +kernel⟩
theorem stR_isDigit : Cond.static (nmT nR_isDigit) ∈ gtb := tbI 520 (by decide +kernel)
theorem mlR_spelled : ML nR_spelled 0 := ⟨tbI 462 (by decide +kernel), tbI 3 (by decide +kernel), ⟨by decide +kernel, by decide +kernel, by decide +kernel⟩, by decide +kernel⟩
theorem imR_spelled : Cond.instanceMethod (nmT nR_spelled) ∈ gtb := tbI 461 (by decide +kernel)
theorem seR_spelled : Cond.selects (nmT nR_spelled).cls (nmT nR_spelled) (nmT nR_spelled) ∈ gtb := tbS 2 (by decide +kernel)
theorem mlR_isSpelled : ML nR_isSpelled 1 := ⟨tbI 468 (by decide +kernel), tbI 3 (by decide +kernel), ⟨by decide +kernel, by decide +kernel, by decide +kernel⟩, by decide +kernel⟩
theorem imR_isSpelled : Cond.instanceMethod (nmT nR_isSpelled) ∈ gtb := tbI 467 (by decide +kernel)
theorem seR_isSpelled : Cond.selects (nmT nR_isSpelled).cls (nmT nR_isSpelled) (nmT nR_isSpelled) ∈ gtb := tbS 3 (by decide +kernel)
theorem mlZ_init : ML nZ_init 2 := ⟨tbI 331 (by decide +kernel), tbI 12 (by decide +kernel), ⟨by decide +kernel, by decide +kernel, by decide +kernel⟩, by decide +kernel⟩
theorem imZ_init : Cond.instanceMethod (nmT nZ_init) ∈ gtb := tbI 330 (by decide +kernel)
theorem mlZ_findTakes : ML nZ_findTakes 2 := ⟨tbI 1029 (by decide +kernel), tbI 12 (by decide +kernel), ⟨by decide +kernel, by decide +kernel, by decide +kernel⟩, by decide +kernel⟩
theorem imZ_findTakes : Cond.instanceMethod (nmT nZ_findTakes) ∈ gtb := tbI 1027 (by decide +kernel)
theorem seZ_findTakes : Cond.selects (nmT nZ_findTakes).cls (nmT nZ_findTakes) (nmT nZ_findTakes) ∈ gtb := tbI 1028 (by decide +kernel)
theorem mlZ_fittingForces : ML nZ_fittingForces 1 := ⟨tbI 1089 (by decide +kernel), tbI 12 (by decide +kernel), ⟨by decide +kernel, by decide +kernel, by decide +kernel⟩, by decide +kernel⟩
theorem imZ_fittingForces : Cond.instanceMethod (nmT nZ_fittingForces) ∈ gtb := tbI 1087 (by decide +kernel)
theorem seZ_fittingForces : Cond.selects (nmT nZ_fittingForces).cls (nmT nZ_fittingForces) (nmT nZ_fittingForces) ∈ gtb := tbI 1088 (by decide +kernel)
theorem mlZ_fits : ML nZ_fits 2 := ⟨tbI 1093 (by decide +kernel), tbI 12 (by decide +kernel), ⟨by decide +kernel, by decide +kernel, by decide +kernel⟩, by decide +kernel⟩
theorem imZ_fits : Cond.instanceMethod (nmT nZ_fits) ∈ gtb := tbI 1092 (by decide +kernel)
theorem seZ_fits : Cond.selects (nmT nZ_fits).cls (nmT nZ_fits) (nmT nZ_fits) ∈ gtb := tbS 44 (by decide +kernel)
theorem mlZ_fittingWinds : ML nZ_fittingWinds 0 := ⟨tbI 1085 (by decide +kernel), tbI 12 (by decide +kernel), ⟨by decide +kernel, by decide +kernel, by decide +kernel⟩, by decide +kernel⟩
theorem imZ_fittingWinds : Cond.instanceMethod (nmT nZ_fittingWinds) ∈ gtb := tbI 1083 (by decide +kernel)
theorem seZ_fittingWinds : Cond.selects (nmT nZ_fittingWinds).cls (nmT nZ_fittingWinds) (nmT nZ_fittingWinds) ∈ gtb := tbI 1084 (by decide +kernel)
theorem mlZ_nextVane : ML nZ_nextVane 0 := ⟨tbI 1106 (by decide +kernel), tbI 12 (by decide +kernel), ⟨by decide +kernel, by decide +kernel, by decide +kernel⟩, by decide +kernel⟩
theorem imZ_nextVane : Cond.instanceMethod (nmT nZ_nextVane) ∈ gtb := tbI 1104 (by decide +kernel)
theorem seZ_nextVane : Cond.selects (nmT nZ_nextVane).cls (nmT nZ_nextVane) (nmT nZ_nextVane) ∈ gtb := tbI 1105 (by decide +kernel)
theorem mlZ_isTookOf : ML nZ_isTookOf 1 := ⟨tbI 1110 (by decide +kernel), tbI 12 (by decide +kernel), ⟨by decide +kernel, by decide +kernel, by decide +kernel⟩, by decide +kernel⟩
theorem imZ_isTookOf : Cond.instanceMethod (nmT nZ_isTookOf) ∈ gtb := tbI 1109 (by decide +kernel)
theorem seZ_isTookOf : Cond.selects (nmT nZ_isTookOf).cls (nmT nZ_isTookOf) (nmT nZ_isTookOf) ∈ gtb := tbS 45 (by decide +kernel)
theorem mlZ_unlikeAnswers : ML nZ_unlikeAnswers 1 := ⟨tbI 1114 (by decide +kernel), tbI 12 (by decide +kernel), ⟨by decide +kernel, by decide +kernel, by decide +kernel⟩, by decide +kernel⟩
theorem imZ_unlikeAnswers : Cond.instanceMethod (nmT nZ_unlikeAnswers) ∈ gtb := tbI 1113 (by decide +kernel)
theorem seZ_unlikeAnswers : Cond.selects (nmT nZ_unlikeAnswers).cls (nmT nZ_unlikeAnswers) (nmT nZ_unlikeAnswers) ∈ gtb := tbS 46 (by decide +kernel)
theorem mlZ_findSails : ML nZ_findSails 2 := ⟨tbI 1126 (by decide +kernel), tbI 12 (by decide +kernel), ⟨by decide +kernel, by decide +kernel, by decide +kernel⟩, by decide +kernel⟩
theorem imZ_findSails : Cond.instanceMethod (nmT nZ_findSails) ∈ gtb := tbI 1124 (by decide +kernel)
theorem seZ_findSails : Cond.selects (nmT nZ_findSails).cls (nmT nZ_findSails) (nmT nZ_findSails) ∈ gtb := tbI 1125 (by decide +kernel)
theorem mlZ_rows : ML nZ_rows 0 := ⟨tbI 1135 (by decide +kernel), tbI 12 (by decide +kernel), ⟨by decide +kernel, by decide +kernel, by decide +kernel⟩, by decide +kernel⟩
theorem imZ_rows : Cond.instanceMethod (nmT nZ_rows) ∈ gtb := tbI 1134 (by decide +kernel)
theorem seZ_rows : Cond.selects (nmT nZ_rows).cls (nmT nZ_rows) (nmT nZ_rows) ∈ gtb := tbS 47 (by decide +kernel)
theorem mlZ_payment : ML nZ_payment 2 := ⟨tbI 1142 (by decide +kernel), tbI 12 (by decide +kernel), ⟨by decide +kernel, by decide +kernel, by decide +kernel⟩, by decide +kernel⟩
theorem stZ_payment : Cond.static (nmT nZ_payment) ∈ gtb := tbI 1141 (by decide +kernel)
theorem mlZ_isSo : ML nZ_isSo 1 := ⟨tbI 1139 (by decide +kernel), tbI 12 (by decide +kernel), ⟨by decide +kernel, by decide +kernel, by decide +kernel⟩, by decide +kernel⟩
theorem imZ_isSo : Cond.instanceMethod (nmT nZ_isSo) ∈ gtb := tbI 1138 (by decide +kernel)
theorem seZ_isSo : Cond.selects (nmT nZ_isSo).cls (nmT nZ_isSo) (nmT nZ_isSo) ∈ gtb := tbS 48 (by decide +kernel)
theorem mlZ_countRows : ML nZ_countRows 0 := ⟨tbI 1131 (by decide +kernel), tbI 12 (by decide +kernel), ⟨by decide +kernel, by decide +kernel, by decide +kernel⟩, by decide +kernel⟩
theorem imZ_countRows : Cond.instanceMethod (nmT nZ_countRows) ∈ gtb := tbI 1129 (by decide +kernel)
theorem seZ_countRows : Cond.selects (nmT nZ_countRows).cls (nmT nZ_countRows) (nmT nZ_countRows) ∈ gtb := tbI 1130 (by decide +kernel)
theorem mlZ_surePayment : ML nZ_surePayment 1 := ⟨tbI 1150 (by decide +kernel), tbI 12 (by decide +kernel), ⟨by decide +kernel, by decide +kernel, by decide +kernel⟩, by decide +kernel⟩
theorem imZ_surePayment : Cond.instanceMethod (nmT nZ_surePayment) ∈ gtb := tbI 1148 (by decide +kernel)
theorem seZ_surePayment : Cond.selects (nmT nZ_surePayment).cls (nmT nZ_surePayment) (nmT nZ_surePayment) ∈ gtb := tbI 1149 (by decide +kernel)
theorem mlT_init : ML nT_init 0 := ⟨tbI 218 (by decide +kernel), tbI 8 (by decide +kernel), ⟨by decide +kernel, by decide +kernel, by decide +kernel⟩, by decide +kernel⟩
theorem imT_init : Cond.instanceMethod (nmT nT_init) ∈ gtb := tbI 217 (by decide +kernel)
theorem mlT_clear : ML nT_clear 0 := ⟨tbI 451 (by decide +kernel), tbI 8 (by decide +kernel), ⟨by decide +kernel, by decide +kernel, by decide +kernel⟩, by decide +kernel⟩
theorem imT_clear : Cond.instanceMethod (nmT nT_clear) ∈ gtb := tbI 449 (by decide +kernel)
theorem seT_clear : Cond.selects (nmT nT_clear).cls (nmT nT_clear) (nmT nT_clear) ∈ gtb := tbI 450 (by decide +kernel)
theorem mlT_hasLaw : ML nT_hasLaw 1 := ⟨tbI 539 (by decide +kernel), tbI 8 (by decide +kernel), ⟨by decide +kernel, by decide +kernel, by decide +kernel⟩, by decide +kernel⟩
theorem imT_hasLaw : Cond.instanceMethod (nmT nT_hasLaw) ∈ gtb := tbI 537 (by decide +kernel)
theorem seT_hasLaw : Cond.selects (nmT nT_hasLaw).cls (nmT nT_hasLaw) (nmT nT_hasLaw) ∈ gtb := tbI 538 (by decide +kernel)
theorem mlT_beginLaw : ML nT_beginLaw 1 := ⟨tbI 547 (by decide +kernel), tbI 8 (by decide +kernel), ⟨by decide +kernel, by decide +kernel, by decide +kernel⟩, by decide +kernel⟩
theorem imT_beginLaw : Cond.instanceMethod (nmT nT_beginLaw) ∈ gtb := tbI 545 (by decide +kernel)
theorem seT_beginLaw : Cond.selects (nmT nT_beginLaw).cls (nmT nT_beginLaw) (nmT nT_beginLaw) ∈ gtb := tbI 546 (by decide +kernel)
theorem mlT_endLaw : ML nT_endLaw 1 := ⟨tbI 625 (by decide +kernel), tbI 8 (by decide +kernel), ⟨by decide +kernel, by decide +kernel, by decide +kernel⟩, by decide +kernel⟩
theorem imT_endLaw : Cond.instanceMethod (nmT nT_endLaw) ∈ gtb := tbI 623 (by decide +kernel)
theorem seT_endLaw : Cond.selects (nmT nT_endLaw).cls (nmT nT_endLaw) (nmT nT_endLaw) ∈ gtb := tbI 624 (by decide +kernel)
theorem mlT_put : ML nT_put 1 := ⟨tbI 555 (by decide +kernel), tbI 8 (by decide +kernel), ⟨by decide +kernel, by decide +kernel, by decide +kernel⟩, by decide +kernel⟩
theorem imT_put : Cond.instanceMethod (nmT nT_put) ∈ gtb := tbI 553 (by decide +kernel)
theorem seT_put : Cond.selects (nmT nT_put).cls (nmT nT_put) (nmT nT_put) ∈ gtb := tbI 554 (by decide +kernel)
theorem mlT_addClause : ML nT_addClause 4 := ⟨tbI 629 (by decide +kernel), tbI 8 (by decide +kernel), ⟨by decide +kernel, by decide +kernel, by decide +kernel⟩, by decide +kernel⟩
theorem imT_addClause : Cond.instanceMethod (nmT nT_addClause) ∈ gtb := tbI 627 (by decide +kernel)
theorem seT_addClause : Cond.selects (nmT nT_addClause).cls (nmT nT_addClause) (nmT nT_addClause) ∈ gtb := tbI 628 (by decide +kernel)
theorem mlK_isName : ML nK_isName 0 := ⟨tbI 573 (by decide +kernel), tbI 5 (by decide +kernel), ⟨by decide +kernel, by decide +kernel, by decide +kernel⟩, by decide +kernel⟩
theorem imK_isName : Cond.instanceMethod (nmT nK_isName) ∈ gtb := tbI 571 (by decide +kernel)
theorem seK_isName : Cond.selects (nmT nK_isName).cls (nmT nK_isName) (nmT nK_isName) ∈ gtb := tbI 572 (by decide +kernel)
theorem mlK_isNameOf : ML nK_isNameOf 1 := ⟨tbI 577 (by decide +kernel), tbI 5 (by decide +kernel), ⟨by decide +kernel, by decide +kernel, by decide +kernel⟩, by decide +kernel⟩
theorem imK_isNameOf : Cond.instanceMethod (nmT nK_isNameOf) ∈ gtb := tbI 575 (by decide +kernel)
theorem seK_isNameOf : Cond.selects (nmT nK_isNameOf).cls (nmT nK_isNameOf) (nmT nK_isNameOf) ∈ gtb := tbI 576 (by decide +kernel)
theorem mlK_compares : ML nK_compares 0 := ⟨tbI 619 (by decide +kernel), tbI 5 (by decide +kernel), ⟨by decide +kernel, by decide +kernel, by decide +kernel⟩, by decide +kernel⟩
theorem imK_compares : Cond.instanceMethod (nmT nK_compares) ∈ gtb := tbI 617 (by decide +kernel)
theorem seK_compares : Cond.selects (nmT nK_compares).cls (nmT nK_compares) (nmT nK_compares) ∈ gtb := tbI 618 (by decide +kernel)
theorem mlW_init : ML nW_init 0 := ⟨tbI 33 (by decide +kernel), tbI 2 (by decide +kernel), ⟨by decide +kernel, by decide +kernel, by decide +kernel⟩, by decide +kernel⟩
theorem imW_init : Cond.instanceMethod (nmT nW_init) ∈ gtb := tbI 32 (by decide +kernel)
theorem mlW_copyFrom : ML nW_copyFrom 1 := ⟨tbI 1205 (by decide +kernel), tbI 2 (by decide +kernel), ⟨by decide +kernel, by decide +kernel, by decide +kernel⟩, by decide +kernel⟩
theorem imW_copyFrom : Cond.instanceMethod (nmT nW_copyFrom) ∈ gtb := tbI 1203 (by decide +kernel)
theorem seW_copyFrom : Cond.selects (nmT nW_copyFrom).cls (nmT nW_copyFrom) (nmT nW_copyFrom) ∈ gtb := tbI 1204 (by decide +kernel)
theorem mlW_copyRow : ML nW_copyRow 2 := ⟨tbI 685 (by decide +kernel), tbI 2 (by decide +kernel), ⟨by decide +kernel, by decide +kernel, by decide +kernel⟩, by decide +kernel⟩
theorem stW_copyRow : Cond.static (nmT nW_copyRow) ∈ gtb := tbI 684 (by decide +kernel)
theorem mlW_isWind : ML nW_isWind 1 := ⟨tbI 752 (by decide +kernel), tbI 2 (by decide +kernel), ⟨by decide +kernel, by decide +kernel, by decide +kernel⟩, by decide +kernel⟩
theorem imW_isWind : Cond.instanceMethod (nmT nW_isWind) ∈ gtb := tbI 750 (by decide +kernel)
theorem seW_isWind : Cond.selects (nmT nW_isWind).cls (nmT nW_isWind) (nmT nW_isWind) ∈ gtb := tbI 751 (by decide +kernel)
theorem mlW_isHere : ML nW_isHere 1 := ⟨tbI 678 (by decide +kernel), tbI 2 (by decide +kernel), ⟨by decide +kernel, by decide +kernel, by decide +kernel⟩, by decide +kernel⟩
theorem imW_isHere : Cond.instanceMethod (nmT nW_isHere) ∈ gtb := tbI 676 (by decide +kernel)
theorem seW_isHere : Cond.selects (nmT nW_isHere).cls (nmT nW_isHere) (nmT nW_isHere) ∈ gtb := tbI 677 (by decide +kernel)
theorem mlW_weightOf : ML nW_weightOf 1 := ⟨tbI 789 (by decide +kernel), tbI 2 (by decide +kernel), ⟨by decide +kernel, by decide +kernel, by decide +kernel⟩, by decide +kernel⟩
theorem imW_weightOf : Cond.instanceMethod (nmT nW_weightOf) ∈ gtb := tbI 787 (by decide +kernel)
theorem seW_weightOf : Cond.selects (nmT nW_weightOf).cls (nmT nW_weightOf) (nmT nW_weightOf) ∈ gtb := tbI 788 (by decide +kernel)
theorem mlW_weightOfAll : ML nW_weightOfAll 0 := ⟨tbI 785 (by decide +kernel), tbI 2 (by decide +kernel), ⟨by decide +kernel, by decide +kernel, by decide +kernel⟩, by decide +kernel⟩
theorem imW_weightOfAll : Cond.instanceMethod (nmT nW_weightOfAll) ∈ gtb := tbI 783 (by decide +kernel)
theorem seW_weightOfAll : Cond.selects (nmT nW_weightOfAll).cls (nmT nW_weightOfAll) (nmT nW_weightOfAll) ∈ gtb := tbI 784 (by decide +kernel)
theorem mlW_isVillage : ML nW_isVillage 1 := ⟨tbI 424 (by decide +kernel), tbI 2 (by decide +kernel), ⟨by decide +kernel, by decide +kernel, by decide +kernel⟩, by decide +kernel⟩
theorem imW_isVillage : Cond.instanceMethod (nmT nW_isVillage) ∈ gtb := tbI 422 (by decide +kernel)
theorem seW_isVillage : Cond.selects (nmT nW_isVillage).cls (nmT nW_isVillage) (nmT nW_isVillage) ∈ gtb := tbI 423 (by decide +kernel)
theorem mlW_isText : ML nW_isText 1 := ⟨tbI 661 (by decide +kernel), tbI 2 (by decide +kernel), ⟨by decide +kernel, by decide +kernel, by decide +kernel⟩, by decide +kernel⟩
theorem imW_isText : Cond.instanceMethod (nmT nW_isText) ∈ gtb := tbI 659 (by decide +kernel)
theorem seW_isText : Cond.selects (nmT nW_isText).cls (nmT nW_isText) (nmT nW_isText) ∈ gtb := tbI 660 (by decide +kernel)
theorem mlW_daysLeft : ML nW_daysLeft 0 := ⟨tbI 721 (by decide +kernel), tbI 2 (by decide +kernel), ⟨by decide +kernel, by decide +kernel, by decide +kernel⟩, by decide +kernel⟩
theorem imW_daysLeft : Cond.instanceMethod (nmT nW_daysLeft) ∈ gtb := tbI 719 (by decide +kernel)
theorem seW_daysLeft : Cond.selects (nmT nW_daysLeft).cls (nmT nW_daysLeft) (nmT nW_daysLeft) ∈ gtb := tbI 720 (by decide +kernel)
theorem mlW_tellWind : ML nW_tellWind 3 := ⟨tbI 398 (by decide +kernel), tbI 2 (by decide +kernel), ⟨by decide +kernel, by decide +kernel, by decide +kernel⟩, by decide +kernel⟩
theorem imW_tellWind : Cond.instanceMethod (nmT nW_tellWind) ∈ gtb := tbI 396 (by decide +kernel)
theorem seW_tellWind : Cond.selects (nmT nW_tellWind).cls (nmT nW_tellWind) (nmT nW_tellWind) ∈ gtb := tbI 397 (by decide +kernel)
theorem mlW_setWind : ML nW_setWind 4 := ⟨tbI 401 (by decide +kernel), tbI 2 (by decide +kernel), ⟨by decide +kernel, by decide +kernel, by decide +kernel⟩, by decide +kernel⟩
theorem stW_setWind : Cond.static (nmT nW_setWind) ∈ gtb := tbI 400 (by decide +kernel)
theorem mlW_tellVillage : ML nW_tellVillage 2 := ⟨tbI 409 (by decide +kernel), tbI 2 (by decide +kernel), ⟨by decide +kernel, by decide +kernel, by decide +kernel⟩, by decide +kernel⟩
theorem imW_tellVillage : Cond.instanceMethod (nmT nW_tellVillage) ∈ gtb := tbI 407 (by decide +kernel)
theorem seW_tellVillage : Cond.selects (nmT nW_tellVillage).cls (nmT nW_tellVillage) (nmT nW_tellVillage) ∈ gtb := tbI 408 (by decide +kernel)
theorem mlW_setVillage : ML nW_setVillage 3 := ⟨tbI 412 (by decide +kernel), tbI 2 (by decide +kernel), ⟨by decide +kernel, by decide +kernel, by decide +kernel⟩, by decide +kernel⟩
theorem stW_setVillage : Cond.static (nmT nW_setVillage) ∈ gtb := tbI 411 (by decide +kernel)
theorem mlW_tellWay : ML nW_tellWay 3 := ⟨tbI 420 (by decide +kernel), tbI 2 (by decide +kernel), ⟨by decide +kernel, by decide +kernel, by decide +kernel⟩, by decide +kernel⟩
theorem imW_tellWay : Cond.instanceMethod (nmT nW_tellWay) ∈ gtb := tbI 418 (by decide +kernel)
theorem seW_tellWay : Cond.selects (nmT nW_tellWay).cls (nmT nW_tellWay) (nmT nW_tellWay) ∈ gtb := tbI 419 (by decide +kernel)
theorem mlW_lengthOf : ML nW_lengthOf 2 := ⟨tbI 1065 (by decide +kernel), tbI 2 (by decide +kernel), ⟨by decide +kernel, by decide +kernel, by decide +kernel⟩, by decide +kernel⟩
theorem imW_lengthOf : Cond.instanceMethod (nmT nW_lengthOf) ∈ gtb := tbI 1063 (by decide +kernel)
theorem seW_lengthOf : Cond.selects (nmT nW_lengthOf).cls (nmT nW_lengthOf) (nmT nW_lengthOf) ∈ gtb := tbI 1064 (by decide +kernel)
theorem mlW_keepStep : ML nW_keepStep 0 := ⟨tbI 682 (by decide +kernel), tbI 2 (by decide +kernel), ⟨by decide +kernel, by decide +kernel, by decide +kernel⟩, by decide +kernel⟩
theorem imW_keepStep : Cond.instanceMethod (nmT nW_keepStep) ∈ gtb := tbI 680 (by decide +kernel)
theorem seW_keepStep : Cond.selects (nmT nW_keepStep).cls (nmT nW_keepStep) (nmT nW_keepStep) ∈ gtb := tbI 681 (by decide +kernel)
theorem mlW_takeBack : ML nW_takeBack 0 := ⟨tbI 858 (by decide +kernel), tbI 2 (by decide +kernel), ⟨by decide +kernel, by decide +kernel, by decide +kernel⟩, by decide +kernel⟩
theorem imW_takeBack : Cond.instanceMethod (nmT nW_takeBack) ∈ gtb := tbI 856 (by decide +kernel)
theorem seW_takeBack : Cond.selects (nmT nW_takeBack).cls (nmT nW_takeBack) (nmT nW_takeBack) ∈ gtb := tbI 857 (by decide +kernel)
theorem mlW_pages : ML nW_pages 0 := ⟨tbI 896 (by decide +kernel), tbI 2 (by decide +kernel), ⟨by decide +kernel, by decide +kernel, by decide +kernel⟩, by decide +kernel⟩
theorem imW_pages : Cond.instanceMethod (nmT nW_pages) ∈ gtb := tbI 894 (by decide +kernel)
theorem seW_pages : Cond.selects (nmT nW_pages).cls (nmT nW_pages) (nmT nW_pages) ∈ gtb := tbI 895 (by decide +kernel)
theorem mlW_writePage : ML nW_writePage 3 := ⟨tbI 815 (by decide +kernel), tbI 2 (by decide +kernel), ⟨by decide +kernel, by decide +kernel, by decide +kernel⟩, by decide +kernel⟩
theorem imW_writePage : Cond.instanceMethod (nmT nW_writePage) ∈ gtb := tbI 813 (by decide +kernel)
theorem seW_writePage : Cond.selects (nmT nW_writePage).cls (nmT nW_writePage) (nmT nW_writePage) ∈ gtb := tbI 814 (by decide +kernel)
theorem mlW_page : ML nW_page 2 := ⟨tbI 900 (by decide +kernel), tbI 2 (by decide +kernel), ⟨by decide +kernel, by decide +kernel, by decide +kernel⟩, by decide +kernel⟩
theorem imW_page : Cond.instanceMethod (nmT nW_page) ∈ gtb := tbI 898 (by decide +kernel)
theorem seW_page : Cond.selects (nmT nW_page).cls (nmT nW_page) (nmT nW_page) ∈ gtb := tbI 899 (by decide +kernel)
theorem lic_1 : Int32.ofInt 1 = 1 := by decide
theorem lic_2 : Int32.ofInt 2 = 2 := by decide
theorem lic_4 : Int32.ofInt 4 = 4 := by decide
theorem lib_8 : (Int8.ofInt 8).toInt32 = 8 := by decide
theorem lib_16 : (Int8.ofInt 16).toInt32 = 16 := by decide
theorem lib_63 : (Int8.ofInt 63).toInt32 = 63 := by decide
theorem lis_256 : (Int16.ofInt 256).toInt32 = 256 := by decide
theorem lic_8 : Int32.ofInt 8 = 8 := by decide
theorem lic_16 : Int32.ofInt 16 = 16 := by decide
theorem lic_m1 : Int32.ofInt (-1) = (-1) := by decide
theorem lib_32 : (Int8.ofInt 32).toInt32 = 32 := by decide
theorem lic_0 : Int32.ofInt 0 = 0 := by decide
theorem lis_255 : (Int16.ofInt 255).toInt32 = 255 := by decide
theorem lis_300 : (Int16.ofInt 300).toInt32 = 300 := by decide
theorem lib_20 : (Int8.ofInt 20).toInt32 = 20 := by decide
theorem lic_m8 : Int32.ofInt (-8) = (-8) := by decide
theorem lib_24 : (Int8.ofInt 24).toInt32 = 24 := by decide
theorem lib_60 : (Int8.ofInt 60).toInt32 = 60 := by decide
theorem lib_m2 : (Int8.ofInt (-2)).toInt32 = (-2) := by decide
theorem lib_42 : (Int8.ofInt 42).toInt32 = 42 := by decide
theorem lis_9999 : (Int16.ofInt 9999).toInt32 = 9999 := by decide
theorem lib_40 : (Int8.ofInt 40).toInt32 = 40 := by decide
theorem lis_m1000 : (Int16.ofInt (-1000)).toInt32 = (-1000) := by decide
theorem lib_6 : (Int8.ofInt 6).toInt32 = 6 := by decide
theorem lib_18 : (Int8.ofInt 18).toInt32 = 18 := by decide
theorem lib_12 : (Int8.ofInt 12).toInt32 = 12 := by decide
theorem lib_36 : (Int8.ofInt 36).toInt32 = 36 := by decide
theorem lib_30 : (Int8.ofInt 30).toInt32 = 30 := by decide
theorem lib_9 : (Int8.ofInt 9).toInt32 = 9 := by decide
theorem lib_43 : (Int8.ofInt 43).toInt32 = 43 := by decide
theorem lic_3 : Int32.ofInt 3 = 3 := by decide
theorem lic_5 : Int32.ofInt 5 = 5 := by decide
theorem lib_99 : (Int8.ofInt 99).toInt32 = 99 := by decide
theorem lis_999 : (Int16.ofInt 999).toInt32 = 999 := by decide
theorem lis_4016 : (Int16.ofInt 4016).toInt32 = 4016 := by decide
theorem lis_2820 : (Int16.ofInt 2820).toInt32 = 2820 := by decide
theorem lis_160 : (Int16.ofInt 160).toInt32 = 160 := by decide
theorem lis_330 : (Int16.ofInt 330).toInt32 = 330 := by decide
theorem lib_84 : (Int8.ofInt 84).toInt32 = 84 := by decide
theorem lib_100 : (Int8.ofInt 100).toInt32 = 100 := by decide
theorem lis_6000 : (Int16.ofInt 6000).toInt32 = 6000 := by decide
theorem lib_127 : (Int8.ofInt 127).toInt32 = 127 := by decide
theorem lib_10 : (Int8.ofInt 10).toInt32 = 10 := by decide
theorem lib_7 : (Int8.ofInt 7).toInt32 = 7 := by decide
theorem lib_65 : (Int8.ofInt 65).toInt32 = 65 := by decide
theorem lib_90 : (Int8.ofInt 90).toInt32 = 90 := by decide
theorem lib_97 : (Int8.ofInt 97).toInt32 = 97 := by decide
theorem lib_122 : (Int8.ofInt 122).toInt32 = 122 := by decide
theorem lib_48 : (Int8.ofInt 48).toInt32 = 48 := by decide
theorem lib_57 : (Int8.ofInt 57).toInt32 = 57 := by decide
theorem lib_61 : (Int8.ofInt 61).toInt32 = 61 := by decide
theorem lib_62 : (Int8.ofInt 62).toInt32 = 62 := by decide
theorem lil_0 : Int64.ofNat ((0 : Fin 2) : Nat) = 0 := by decide
theorem lib_112 : (Int8.ofInt 112).toInt32 = 112 := by decide
theorem lib_117 : (Int8.ofInt 117).toInt32 = 117 := by decide
theorem lib_114 : (Int8.ofInt 114).toInt32 = 114 := by decide
theorem lib_115 : (Int8.ofInt 115).toInt32 = 115 := by decide
theorem lib_101 : (Int8.ofInt 101).toInt32 = 101 := by decide
theorem lib_111 : (Int8.ofInt 111).toInt32 = 111 := by decide
theorem lib_102 : (Int8.ofInt 102).toInt32 = 102 := by decide
theorem lib_119 : (Int8.ofInt 119).toInt32 = 119 := by decide
theorem lib_105 : (Int8.ofInt 105).toInt32 = 105 := by decide
theorem lib_103 : (Int8.ofInt 103).toInt32 = 103 := by decide
theorem lib_104 : (Int8.ofInt 104).toInt32 = 104 := by decide
theorem lib_116 : (Int8.ofInt 116).toInt32 = 116 := by decide
theorem lib_113 : (Int8.ofInt 113).toInt32 = 113 := by decide
theorem lib_121 : (Int8.ofInt 121).toInt32 = 121 := by decide
theorem lib_21 : (Int8.ofInt 21).toInt32 = 21 := by decide
theorem lib_22 : (Int8.ofInt 22).toInt32 = 22 := by decide
theorem lib_110 : (Int8.ofInt 110).toInt32 = 110 := by decide
theorem lib_41 : (Int8.ofInt 41).toInt32 = 41 := by decide
theorem lib_98 : (Int8.ofInt 98).toInt32 = 98 := by decide
theorem lib_45 : (Int8.ofInt 45).toInt32 = 45 := by decide
theorem lib_35 : (Int8.ofInt 35).toInt32 = 35 := by decide
theorem lib_15 : (Int8.ofInt 15).toInt32 = 15 := by decide
theorem lib_14 : (Int8.ofInt 14).toInt32 = 14 := by decide
theorem lib_13 : (Int8.ofInt 13).toInt32 = 13 := by decide
theorem lib_11 : (Int8.ofInt 11).toInt32 = 11 := by decide
theorem lib_47 : (Int8.ofInt 47).toInt32 = 47 := by decide
theorem lib_109 : (Int8.ofInt 109).toInt32 = 109 := by decide
theorem lib_118 : (Int8.ofInt 118).toInt32 = 118 := by decide
theorem lib_108 : (Int8.ofInt 108).toInt32 = 108 := by decide
theorem lib_107 : (Int8.ofInt 107).toInt32 = 107 := by decide
theorem lib_59 : (Int8.ofInt 59).toInt32 = 59 := by decide
theorem lis_705 : (Int16.ofInt 705).toInt32 = 705 := by decide
theorem lic_m2 : Int32.ofInt (-2) = (-2) := by decide
theorem lis_1556 : (Int16.ofInt 1556).toInt32 = 1556 := by decide
theorem lis_1230 : (Int16.ofInt 1230).toInt32 = 1230 := by decide
theorem lis_10000 : (Int16.ofInt 10000).toInt32 = 10000 := by decide
theorem lis_1000 : (Int16.ofInt 1000).toInt32 = 1000 := by decide
theorem lis_m999 : (Int16.ofInt (-999)).toInt32 = (-999) := by decide
theorem lis_146 : (Int16.ofInt 146).toInt32 = 146 := by decide
theorem lis_1363 : (Int16.ofInt 1363).toInt32 = 1363 := by decide
theorem lis_193 : (Int16.ofInt 193).toInt32 = 193 := by decide
theorem lil_1 : Int64.ofNat ((1 : Fin 2) : Nat) = 1 := by decide
theorem lib_120 : (Int8.ofInt 120).toInt32 = 120 := by decide
theorem lis_136 : (Int16.ofInt 136).toInt32 = 136 := by decide
theorem lis_141 : (Int16.ofInt 141).toInt32 = 141 := by decide
theorem lis_353 : (Int16.ofInt 353).toInt32 = 353 := by decide
theorem lis_233 : (Int16.ofInt 233).toInt32 = 233 := by decide
theorem lis_30427 : (Int16.ofInt 30427).toInt32 = 30427 := by decide
theorem lib_75 : (Int8.ofInt 75).toInt32 = 75 := by decide
theorem lib_64 : (Int8.ofInt 64).toInt32 = 64 := by decide
theorem lis_10023 : (Int16.ofInt 10023).toInt32 = 10023 := by decide
theorem lis_10010 : (Int16.ofInt 10010).toInt32 = 10010 := by decide
theorem lis_10007 : (Int16.ofInt 10007).toInt32 = 10007 := by decide
theorem lib_96 : (Int8.ofInt 96).toInt32 = 96 := by decide
theorem lis_10006 : (Int16.ofInt 10006).toInt32 = 10006 := by decide
theorem lib_44 : (Int8.ofInt 44).toInt32 = 44 := by decide
theorem lic_6 : Int32.ofInt 6 = 6 := by decide
theorem fi10 (k : Nat) : ∀ C T N, cls[10]? = some (C, T, N) → (T k).2.2.2 = false ∨ (("<init>" : String) = "<init>" ∧ C = "OwedToWinds") := fun _ _ _ h => by cases h; exact Or.inr ⟨rfl, rfl⟩
theorem nf10_4 {mn own : String} : ∀ C T N, cls[10]? = some (C, T, N) → (T 4).2.2.2 = false ∨ (mn = "<init>" ∧ C = own) := fun _ _ _ h => by cases h; exact Or.inl rfl
theorem nf9_9 {mn own : String} : ∀ C T N, cls[9]? = some (C, T, N) → (T 9).2.2.2 = false ∨ (mn = "<init>" ∧ C = own) := fun _ _ _ h => by cases h; exact Or.inl rfl
theorem nf9_10 {mn own : String} : ∀ C T N, cls[9]? = some (C, T, N) → (T 10).2.2.2 = false ∨ (mn = "<init>" ∧ C = own) := fun _ _ _ h => by cases h; exact Or.inl rfl
theorem nf9_11 {mn own : String} : ∀ C T N, cls[9]? = some (C, T, N) → (T 11).2.2.2 = false ∨ (mn = "<init>" ∧ C = own) := fun _ _ _ h => by cases h; exact Or.inl rfl
theorem nf9_14 {mn own : String} : ∀ C T N, cls[9]? = some (C, T, N) → (T 14).2.2.2 = false ∨ (mn = "<init>" ∧ C = own) := fun _ _ _ h => by cases h; exact Or.inl rfl
theorem nf9_16 {mn own : String} : ∀ C T N, cls[9]? = some (C, T, N) → (T 16).2.2.2 = false ∨ (mn = "<init>" ∧ C = own) := fun _ _ _ h => by cases h; exact Or.inl rfl
theorem fi11 (k : Nat) : ∀ C T N, cls[11]? = some (C, T, N) → (T k).2.2.2 = false ∨ (("<init>" : String) = "<init>" ∧ C = "OwedToWindsModel") := fun _ _ _ h => by cases h; exact Or.inr ⟨rfl, rfl⟩
theorem nf11_5 {mn own : String} : ∀ C T N, cls[11]? = some (C, T, N) → (T 5).2.2.2 = false ∨ (mn = "<init>" ∧ C = own) := fun _ _ _ h => by cases h; exact Or.inl rfl
theorem nf11_6 {mn own : String} : ∀ C T N, cls[11]? = some (C, T, N) → (T 6).2.2.2 = false ∨ (mn = "<init>" ∧ C = own) := fun _ _ _ h => by cases h; exact Or.inl rfl
theorem nf11_24 {mn own : String} : ∀ C T N, cls[11]? = some (C, T, N) → (T 24).2.2.2 = false ∨ (mn = "<init>" ∧ C = own) := fun _ _ _ h => by cases h; exact Or.inl rfl
theorem nf11_4 {mn own : String} : ∀ C T N, cls[11]? = some (C, T, N) → (T 4).2.2.2 = false ∨ (mn = "<init>" ∧ C = own) := fun _ _ _ h => by cases h; exact Or.inl rfl
theorem nf11_9 {mn own : String} : ∀ C T N, cls[11]? = some (C, T, N) → (T 9).2.2.2 = false ∨ (mn = "<init>" ∧ C = own) := fun _ _ _ h => by cases h; exact Or.inl rfl
theorem nf11_7 {mn own : String} : ∀ C T N, cls[11]? = some (C, T, N) → (T 7).2.2.2 = false ∨ (mn = "<init>" ∧ C = own) := fun _ _ _ h => by cases h; exact Or.inl rfl
theorem nf11_11 {mn own : String} : ∀ C T N, cls[11]? = some (C, T, N) → (T 11).2.2.2 = false ∨ (mn = "<init>" ∧ C = own) := fun _ _ _ h => by cases h; exact Or.inl rfl
theorem nf11_10 {mn own : String} : ∀ C T N, cls[11]? = some (C, T, N) → (T 10).2.2.2 = false ∨ (mn = "<init>" ∧ C = own) := fun _ _ _ h => by cases h; exact Or.inl rfl
theorem nf11_8 {mn own : String} : ∀ C T N, cls[11]? = some (C, T, N) → (T 8).2.2.2 = false ∨ (mn = "<init>" ∧ C = own) := fun _ _ _ h => by cases h; exact Or.inl rfl
theorem nf11_13 {mn own : String} : ∀ C T N, cls[11]? = some (C, T, N) → (T 13).2.2.2 = false ∨ (mn = "<init>" ∧ C = own) := fun _ _ _ h => by cases h; exact Or.inl rfl
theorem nf11_17 {mn own : String} : ∀ C T N, cls[11]? = some (C, T, N) → (T 17).2.2.2 = false ∨ (mn = "<init>" ∧ C = own) := fun _ _ _ h => by cases h; exact Or.inl rfl
theorem nf11_16 {mn own : String} : ∀ C T N, cls[11]? = some (C, T, N) → (T 16).2.2.2 = false ∨ (mn = "<init>" ∧ C = own) := fun _ _ _ h => by cases h; exact Or.inl rfl
theorem nf11_18 {mn own : String} : ∀ C T N, cls[11]? = some (C, T, N) → (T 18).2.2.2 = false ∨ (mn = "<init>" ∧ C = own) := fun _ _ _ h => by cases h; exact Or.inl rfl
theorem nf11_19 {mn own : String} : ∀ C T N, cls[11]? = some (C, T, N) → (T 19).2.2.2 = false ∨ (mn = "<init>" ∧ C = own) := fun _ _ _ h => by cases h; exact Or.inl rfl
theorem nf11_14 {mn own : String} : ∀ C T N, cls[11]? = some (C, T, N) → (T 14).2.2.2 = false ∨ (mn = "<init>" ∧ C = own) := fun _ _ _ h => by cases h; exact Or.inl rfl
theorem nf11_20 {mn own : String} : ∀ C T N, cls[11]? = some (C, T, N) → (T 20).2.2.2 = false ∨ (mn = "<init>" ∧ C = own) := fun _ _ _ h => by cases h; exact Or.inl rfl
theorem nf11_12 {mn own : String} : ∀ C T N, cls[11]? = some (C, T, N) → (T 12).2.2.2 = false ∨ (mn = "<init>" ∧ C = own) := fun _ _ _ h => by cases h; exact Or.inl rfl
theorem nf11_25 {mn own : String} : ∀ C T N, cls[11]? = some (C, T, N) → (T 25).2.2.2 = false ∨ (mn = "<init>" ∧ C = own) := fun _ _ _ h => by cases h; exact Or.inl rfl
theorem nf11_26 {mn own : String} : ∀ C T N, cls[11]? = some (C, T, N) → (T 26).2.2.2 = false ∨ (mn = "<init>" ∧ C = own) := fun _ _ _ h => by cases h; exact Or.inl rfl
theorem nf11_27 {mn own : String} : ∀ C T N, cls[11]? = some (C, T, N) → (T 27).2.2.2 = false ∨ (mn = "<init>" ∧ C = own) := fun _ _ _ h => by cases h; exact Or.inl rfl
theorem nf11_28 {mn own : String} : ∀ C T N, cls[11]? = some (C, T, N) → (T 28).2.2.2 = false ∨ (mn = "<init>" ∧ C = own) := fun _ _ _ h => by cases h; exact Or.inl rfl
theorem nf11_35 {mn own : String} : ∀ C T N, cls[11]? = some (C, T, N) → (T 35).2.2.2 = false ∨ (mn = "<init>" ∧ C = own) := fun _ _ _ h => by cases h; exact Or.inl rfl
theorem fi0 (k : Nat) : ∀ C T N, cls[0]? = some (C, T, N) → (T k).2.2.2 = false ∨ (("<init>" : String) = "<init>" ∧ C = "OwedToWinds$Coins") := fun _ _ _ h => by cases h; exact Or.inr ⟨rfl, rfl⟩
theorem nf1_2 {mn own : String} : ∀ C T N, cls[1]? = some (C, T, N) → (T 2).2.2.2 = false ∨ (mn = "<init>" ∧ C = own) := fun _ _ _ h => by cases h; exact Or.inl rfl
theorem nf1_3 {mn own : String} : ∀ C T N, cls[1]? = some (C, T, N) → (T 3).2.2.2 = false ∨ (mn = "<init>" ∧ C = own) := fun _ _ _ h => by cases h; exact Or.inl rfl
theorem nf1_4 {mn own : String} : ∀ C T N, cls[1]? = some (C, T, N) → (T 4).2.2.2 = false ∨ (mn = "<init>" ∧ C = own) := fun _ _ _ h => by cases h; exact Or.inl rfl
theorem fi1 (k : Nat) : ∀ C T N, cls[1]? = some (C, T, N) → (T k).2.2.2 = false ∨ (("<init>" : String) = "<init>" ∧ C = "OwedToWinds$Days") := fun _ _ _ h => by cases h; exact Or.inr ⟨rfl, rfl⟩
theorem fi2 (k : Nat) : ∀ C T N, cls[2]? = some (C, T, N) → (T k).2.2.2 = false ∨ (("<init>" : String) = "<init>" ∧ C = "OwedToWinds$Foresight") := fun _ _ _ h => by cases h; exact Or.inr ⟨rfl, rfl⟩
theorem nf2_3 {mn own : String} : ∀ C T N, cls[2]? = some (C, T, N) → (T 3).2.2.2 = false ∨ (mn = "<init>" ∧ C = own) := fun _ _ _ h => by cases h; exact Or.inl rfl
theorem nf2_4 {mn own : String} : ∀ C T N, cls[2]? = some (C, T, N) → (T 4).2.2.2 = false ∨ (mn = "<init>" ∧ C = own) := fun _ _ _ h => by cases h; exact Or.inl rfl
theorem nf2_5 {mn own : String} : ∀ C T N, cls[2]? = some (C, T, N) → (T 5).2.2.2 = false ∨ (mn = "<init>" ∧ C = own) := fun _ _ _ h => by cases h; exact Or.inl rfl
theorem nf2_6 {mn own : String} : ∀ C T N, cls[2]? = some (C, T, N) → (T 6).2.2.2 = false ∨ (mn = "<init>" ∧ C = own) := fun _ _ _ h => by cases h; exact Or.inl rfl
theorem nf2_8 {mn own : String} : ∀ C T N, cls[2]? = some (C, T, N) → (T 8).2.2.2 = false ∨ (mn = "<init>" ∧ C = own) := fun _ _ _ h => by cases h; exact Or.inl rfl
theorem nf3_0 {mn own : String} : ∀ C T N, cls[3]? = some (C, T, N) → (T 0).2.2.2 = false ∨ (mn = "<init>" ∧ C = own) := fun _ _ _ h => by cases h; exact Or.inl rfl
theorem nf3_1 {mn own : String} : ∀ C T N, cls[3]? = some (C, T, N) → (T 1).2.2.2 = false ∨ (mn = "<init>" ∧ C = own) := fun _ _ _ h => by cases h; exact Or.inl rfl
theorem fi4 (k : Nat) : ∀ C T N, cls[4]? = some (C, T, N) → (T k).2.2.2 = false ∨ (("<init>" : String) = "<init>" ∧ C = "OwedToWinds$Laws") := fun _ _ _ h => by cases h; exact Or.inr ⟨rfl, rfl⟩
theorem nf5_1 {mn own : String} : ∀ C T N, cls[5]? = some (C, T, N) → (T 1).2.2.2 = false ∨ (mn = "<init>" ∧ C = own) := fun _ _ _ h => by cases h; exact Or.inl rfl
theorem nf5_2 {mn own : String} : ∀ C T N, cls[5]? = some (C, T, N) → (T 2).2.2.2 = false ∨ (mn = "<init>" ∧ C = own) := fun _ _ _ h => by cases h; exact Or.inl rfl
theorem nf5_3 {mn own : String} : ∀ C T N, cls[5]? = some (C, T, N) → (T 3).2.2.2 = false ∨ (mn = "<init>" ∧ C = own) := fun _ _ _ h => by cases h; exact Or.inl rfl
theorem nf5_4 {mn own : String} : ∀ C T N, cls[5]? = some (C, T, N) → (T 4).2.2.2 = false ∨ (mn = "<init>" ∧ C = own) := fun _ _ _ h => by cases h; exact Or.inl rfl
theorem nf5_5 {mn own : String} : ∀ C T N, cls[5]? = some (C, T, N) → (T 5).2.2.2 = false ∨ (mn = "<init>" ∧ C = own) := fun _ _ _ h => by cases h; exact Or.inl rfl
theorem nf5_6 {mn own : String} : ∀ C T N, cls[5]? = some (C, T, N) → (T 6).2.2.2 = false ∨ (mn = "<init>" ∧ C = own) := fun _ _ _ h => by cases h; exact Or.inl rfl
theorem nf5_7 {mn own : String} : ∀ C T N, cls[5]? = some (C, T, N) → (T 7).2.2.2 = false ∨ (mn = "<init>" ∧ C = own) := fun _ _ _ h => by cases h; exact Or.inl rfl
theorem nf5_8 {mn own : String} : ∀ C T N, cls[5]? = some (C, T, N) → (T 8).2.2.2 = false ∨ (mn = "<init>" ∧ C = own) := fun _ _ _ h => by cases h; exact Or.inl rfl
theorem nf5_9 {mn own : String} : ∀ C T N, cls[5]? = some (C, T, N) → (T 9).2.2.2 = false ∨ (mn = "<init>" ∧ C = own) := fun _ _ _ h => by cases h; exact Or.inl rfl
theorem fi5 (k : Nat) : ∀ C T N, cls[5]? = some (C, T, N) → (T k).2.2.2 = false ∨ (("<init>" : String) = "<init>" ∧ C = "OwedToWinds$Reader") := fun _ _ _ h => by cases h; exact Or.inr ⟨rfl, rfl⟩
theorem nf5_11 {mn own : String} : ∀ C T N, cls[5]? = some (C, T, N) → (T 11).2.2.2 = false ∨ (mn = "<init>" ∧ C = own) := fun _ _ _ h => by cases h; exact Or.inl rfl
theorem nf5_12 {mn own : String} : ∀ C T N, cls[5]? = some (C, T, N) → (T 12).2.2.2 = false ∨ (mn = "<init>" ∧ C = own) := fun _ _ _ h => by cases h; exact Or.inl rfl
theorem nf5_13 {mn own : String} : ∀ C T N, cls[5]? = some (C, T, N) → (T 13).2.2.2 = false ∨ (mn = "<init>" ∧ C = own) := fun _ _ _ h => by cases h; exact Or.inl rfl
theorem nf5_14 {mn own : String} : ∀ C T N, cls[5]? = some (C, T, N) → (T 14).2.2.2 = false ∨ (mn = "<init>" ∧ C = own) := fun _ _ _ h => by cases h; exact Or.inl rfl
theorem fi6 (k : Nat) : ∀ C T N, cls[6]? = some (C, T, N) → (T k).2.2.2 = false ∨ (("<init>" : String) = "<init>" ∧ C = "OwedToWinds$Riddles") := fun _ _ _ h => by cases h; exact Or.inr ⟨rfl, rfl⟩
theorem fi7 (k : Nat) : ∀ C T N, cls[7]? = some (C, T, N) → (T k).2.2.2 = false ∨ (("<init>" : String) = "<init>" ∧ C = "OwedToWinds$Text") := fun _ _ _ h => by cases h; exact Or.inr ⟨rfl, rfl⟩
theorem nf7_1 {mn own : String} : ∀ C T N, cls[7]? = some (C, T, N) → (T 1).2.2.2 = false ∨ (mn = "<init>" ∧ C = own) := fun _ _ _ h => by cases h; exact Or.inl rfl
theorem nf7_5 {mn own : String} : ∀ C T N, cls[7]? = some (C, T, N) → (T 5).2.2.2 = false ∨ (mn = "<init>" ∧ C = own) := fun _ _ _ h => by cases h; exact Or.inl rfl
theorem fi9 (k : Nat) : ∀ C T N, cls[9]? = some (C, T, N) → (T k).2.2.2 = false ∨ (("<init>" : String) = "<init>" ∧ C = "OwedToWinds$World") := fun _ _ _ h => by cases h; exact Or.inr ⟨rfl, rfl⟩
theorem nf9_2 {mn own : String} : ∀ C T N, cls[9]? = some (C, T, N) → (T 2).2.2.2 = false ∨ (mn = "<init>" ∧ C = own) := fun _ _ _ h => by cases h; exact Or.inl rfl
theorem nf9_3 {mn own : String} : ∀ C T N, cls[9]? = some (C, T, N) → (T 3).2.2.2 = false ∨ (mn = "<init>" ∧ C = own) := fun _ _ _ h => by cases h; exact Or.inl rfl
theorem nf9_4 {mn own : String} : ∀ C T N, cls[9]? = some (C, T, N) → (T 4).2.2.2 = false ∨ (mn = "<init>" ∧ C = own) := fun _ _ _ h => by cases h; exact Or.inl rfl
theorem nf9_6 {mn own : String} : ∀ C T N, cls[9]? = some (C, T, N) → (T 6).2.2.2 = false ∨ (mn = "<init>" ∧ C = own) := fun _ _ _ h => by cases h; exact Or.inl rfl
theorem lkI_265 : Cond.constant "java/lang/Integer" 265 1431655765 ∈ gtb := tbI 1023 (by decide +kernel)
theorem lkI_266 : Cond.constant "java/lang/Integer" 266 858993459 ∈ gtb := tbI 1024 (by decide +kernel)
theorem lkI_267 : Cond.constant "java/lang/Integer" 267 252645135 ∈ gtb := tbI 1025 (by decide +kernel)
theorem lkI_264 : Cond.constant "java/lang/Integer" 264 65536 ∈ gtb := tbI 1155 (by decide +kernel)
theorem lkS_335 : VL "java/lang/String" 335 nS_coder 0 := ⟨mlS_coder, tbI 473 (by decide +kernel), imS_coder, seS_coder⟩
theorem lkS_9 : Cond.fieldLink "java/lang/String" 9 "java/lang/String" "value" "[B" ∈ gtb := tbI 1944 (by decide +kernel)
theorem lkS_38 : Cond.fieldLink "java/lang/String" 38 "java/lang/String" "COMPACT_STRINGS" "Z" ∈ gtb := tbI 477 (by decide +kernel)
theorem lkS_15 : Cond.fieldLink "java/lang/String" 15 "java/lang/String" "coder" "B" ∈ gtb := tbI 1945 (by decide +kernel)
theorem lkS_495 : SL "java/lang/String" 495 nU_charAt 2 := ⟨mlU_charAt, tbI 487 (by decide +kernel), stU_charAt⟩
theorem lkS_492 : VL "java/lang/String" 492 nS_isLatin1 0 := ⟨mlS_isLatin1, tbI 483 (by decide +kernel), imS_isLatin1, seS_isLatin1⟩
theorem lkS_1053 : Cond.fieldLink "java/lang/String" 1053 "jdk/internal/util/Preconditions" "SIOOBE_FORMATTER" "Ljava/util/function/BiFunction;" ∈ gtb := tbI 493 (by decide +kernel)
theorem lkS_1059 : SL "java/lang/String" 1059 nP_checkIndex 3 := ⟨mlP_checkIndex, tbI 495 (by decide +kernel), stP_checkIndex⟩
theorem lkU_9 : SL "java/lang/StringLatin1" 9 nS_checkIndex 2 := ⟨mlS_checkIndex, tbI 490 (by decide +kernel), stS_checkIndex⟩
theorem lkX_87 : FL "OwedToWinds" 87 10 8 := ⟨RX10, TX10, 12, rfl, by decide, by decide, tbI 362 (by decide +kernel)⟩
theorem lkX_80 : FL "OwedToWinds" 80 10 7 := ⟨RX10, TX10, 12, rfl, by decide, by decide, tbI 361 (by decide +kernel)⟩
theorem lkX_84 : NL "OwedToWinds" 84 6 := ⟨RX6, TX6, 6, rfl, by decide, tbI 327 (by decide +kernel)⟩
theorem lkX_10 : FL "OwedToWinds" 10 10 0 := ⟨RX10, TX10, 12, rfl, by decide, by decide, tbI 354 (by decide +kernel)⟩
theorem lkX_62 : FL "OwedToWinds" 62 10 9 := ⟨RX10, TX10, 12, rfl, by decide, by decide, tbI 363 (by decide +kernel)⟩
theorem lkX_86 : IL "OwedToWinds" 86 nZ_init 2 := ⟨mlZ_init, by decide +kernel, by decide +kernel, tbI 329 (by decide +kernel), imZ_init⟩
theorem lkX_71 : FL "OwedToWinds" 71 10 6 := ⟨RX10, TX10, 12, rfl, by decide, by decide, tbI 360 (by decide +kernel)⟩
theorem lkX_75 : NL "OwedToWinds" 75 2 := ⟨RX2, TX2, 10, rfl, by decide, tbI 285 (by decide +kernel)⟩
theorem lkX_77 : IL "OwedToWinds" 77 nF_init 2 := ⟨mlF_init, by decide +kernel, by decide +kernel, tbI 287 (by decide +kernel), imF_init⟩
theorem lkX_66 : NL "OwedToWinds" 66 1 := ⟨RX1, TX1, 5, rfl, by decide, tbI 261 (by decide +kernel)⟩
theorem lkX_68 : IL "OwedToWinds" 68 nD_init 2 := ⟨mlD_init, by decide +kernel, by decide +kernel, tbI 263 (by decide +kernel), imD_init⟩
theorem lkX_57 : NL "OwedToWinds" 57 4 := ⟨RX4, TX4, 3, rfl, by decide, tbI 245 (by decide +kernel)⟩
theorem lkX_21 : FL "OwedToWinds" 21 10 2 := ⟨RX10, TX10, 12, rfl, by decide, by decide, tbI 356 (by decide +kernel)⟩
theorem lkX_59 : IL "OwedToWinds" 59 nL_init 2 := ⟨mlL_init, by decide +kernel, by decide +kernel, tbI 247 (by decide +kernel), imL_init⟩
theorem lkX_19 : NL "OwedToWinds" 19 7 := ⟨RX7, TX7, 6, rfl, by decide, tbI 129 (by decide +kernel)⟩
theorem lkX_56 : ILn "OwedToWinds" 56 nT_init 0 := ⟨mlT_init, by decide +kernel, by decide +kernel, ⟨"OwedToWinds", tbI 216 (by decide +kernel)⟩, imT_init⟩
theorem lkX_52 : FL "OwedToWinds" 52 10 11 := ⟨RX10, TX10, 12, rfl, by decide, by decide, tbI 365 (by decide +kernel)⟩
theorem lkX_45 : FL "OwedToWinds" 45 10 10 := ⟨RX10, TX10, 12, rfl, by decide, by decide, tbI 364 (by decide +kernel)⟩
theorem lkX_49 : NL "OwedToWinds" 49 0 := ⟨RX0, TX0, 1, rfl, by decide, tbI 204 (by decide +kernel)⟩
theorem lkX_51 : ILn "OwedToWinds" 51 nC_init 0 := ⟨mlC_init, by decide +kernel, by decide +kernel, ⟨"OwedToWinds", tbI 206 (by decide +kernel)⟩, imC_init⟩
theorem lkX_38 : FL "OwedToWinds" 38 10 5 := ⟨RX10, TX10, 12, rfl, by decide, by decide, tbI 359 (by decide +kernel)⟩
theorem lkX_42 : NL "OwedToWinds" 42 3 := ⟨RX3, TX3, 2, rfl, by decide, tbI 189 (by decide +kernel)⟩
theorem lkX_44 : ILn "OwedToWinds" 44 nQ_init 0 := ⟨mlQ_init, by decide +kernel, by decide +kernel, ⟨"OwedToWinds", tbI 191 (by decide +kernel)⟩, imQ_init⟩
theorem lkX_16 : FL "OwedToWinds" 16 10 1 := ⟨RX10, TX10, 12, rfl, by decide, by decide, tbI 355 (by decide +kernel)⟩
theorem lkX_25 : FL "OwedToWinds" 25 10 3 := ⟨RX10, TX10, 12, rfl, by decide, by decide, tbI 357 (by decide +kernel)⟩
theorem lkX_29 : FL "OwedToWinds" 29 10 4 := ⟨RX10, TX10, 12, rfl, by decide, by decide, tbI 358 (by decide +kernel)⟩
theorem lkX_33 : NL "OwedToWinds" 33 5 := ⟨RX5, TX5, 15, rfl, by decide, tbI 131 (by decide +kernel)⟩
theorem lkX_35 : IL "OwedToWinds" 35 nR_init 1 := ⟨mlR_init, by decide +kernel, by decide +kernel, tbI 133 (by decide +kernel), imR_init⟩
theorem lkX_7 : NL "OwedToWinds" 7 9 := ⟨RX9, TX9, 18, rfl, by decide, tbI 29 (by decide +kernel)⟩
theorem lkX_9 : IL "OwedToWinds" 9 nW_init 0 := ⟨mlW_init, by decide +kernel, by decide +kernel, tbI 31 (by decide +kernel), imW_init⟩
theorem lkX_1 : Cond.methodLink "OwedToWinds" 1 Lib.objectInit ∈ gtb := tbI 26 (by decide +kernel)
theorem lkX_91 : VL "OwedToWinds" 91 nW_tellWind 3 := ⟨mlW_tellWind, tbI 395 (by decide +kernel), imW_tellWind, seW_tellWind⟩
theorem lkX_95 : VL "OwedToWinds" 95 nW_tellVillage 2 := ⟨mlW_tellVillage, tbI 406 (by decide +kernel), imW_tellVillage, seW_tellVillage⟩
theorem lkX_99 : VL "OwedToWinds" 99 nW_tellWay 3 := ⟨mlW_tellWay, tbI 417 (by decide +kernel), imW_tellWay, seW_tellWay⟩
theorem lkX_103 : VL "OwedToWinds" 103 nX_feedFour 1 := ⟨mlX_feedFour, tbI 429 (by decide +kernel), imX_feedFour, seX_feedFour⟩
theorem lkX_107 : FL "OwedToWinds" 107 9 9 := ⟨RX9, TX9, 18, rfl, by decide, by decide, tbI 66 (by decide +kernel)⟩
theorem lkX_109 : VL "OwedToWinds" 109 nR_read 2 := ⟨mlR_read, tbI 441 (by decide +kernel), imR_read, seR_read⟩
theorem lkX_116 : FL "OwedToWinds" 116 5 14 := ⟨RX5, TX5, 15, rfl, by decide, by decide, tbI 157 (by decide +kernel)⟩
theorem lkX_113 : FL "OwedToWinds" 113 5 13 := ⟨RX5, TX5, 15, rfl, by decide, by decide, tbI 155 (by decide +kernel)⟩
theorem lkX_123 : FL "OwedToWinds" 123 9 10 := ⟨RX9, TX9, 18, rfl, by decide, by decide, tbI 70 (by decide +kernel)⟩
theorem lkX_119 : VL "OwedToWinds" 119 nW_isText 1 := ⟨mlW_isText, tbI 658 (by decide +kernel), imW_isText, seW_isText⟩
theorem lkX_126 : VL "OwedToWinds" 126 nD_payByHand 3 := ⟨mlD_payByHand, tbI 666 (by decide +kernel), imD_payByHand, seD_payByHand⟩
theorem lkX_129 : VL "OwedToWinds" 129 nD_mergeByHand 2 := ⟨mlD_mergeByHand, tbI 698 (by decide +kernel), imD_mergeByHand, seD_mergeByHand⟩
theorem lkX_142 : FL "OwedToWinds" 142 1 4 := ⟨RX1, TX1, 5, rfl, by decide, by decide, tbI 273 (by decide +kernel)⟩
theorem lkX_139 : VL "OwedToWinds" 139 nD_pass 0 := ⟨mlD_pass, tbI 723 (by decide +kernel), imD_pass, seD_pass⟩
theorem lkX_136 : VL "OwedToWinds" 136 nW_keepStep 0 := ⟨mlW_keepStep, tbI 722 (by decide +kernel), imW_keepStep, seW_keepStep⟩
theorem lkX_132 : VL "OwedToWinds" 132 nW_daysLeft 0 := ⟨mlW_daysLeft, tbI 718 (by decide +kernel), imW_daysLeft, seW_daysLeft⟩
theorem lkX_145 : VL "OwedToWinds" 145 nD_play 1 := ⟨mlD_play, tbI 820 (by decide +kernel), imD_play, seD_play⟩
theorem lkX_153 : FL "OwedToWinds" 153 9 0 := ⟨RX9, TX9, 18, rfl, by decide, by decide, tbI 42 (by decide +kernel)⟩
theorem lkX_149 : VL "OwedToWinds" 149 nD_passYears 2 := ⟨mlD_passYears, tbI 839 (by decide +kernel), imD_passYears, seD_passYears⟩
theorem lkX_160 : FL "OwedToWinds" 160 9 3 := ⟨RX9, TX9, 18, rfl, by decide, by decide, tbI 46 (by decide +kernel)⟩
theorem lkX_156 : VL "OwedToWinds" 156 nW_takeBack 0 := ⟨mlW_takeBack, tbI 855 (by decide +kernel), imW_takeBack, seW_takeBack⟩
theorem lkX_176 : VL "OwedToWinds" 176 nL_duesOf 1 := ⟨mlL_duesOf, tbI 866 (by decide +kernel), imL_duesOf, seL_duesOf⟩
theorem lkX_173 : VL "OwedToWinds" 173 nL_comesOf 1 := ⟨mlL_comesOf, tbI 865 (by decide +kernel), imL_comesOf, seL_comesOf⟩
theorem lkX_169 : VL "OwedToWinds" 169 nL_blowsOf 1 := ⟨mlL_blowsOf, tbI 864 (by decide +kernel), imL_blowsOf, seL_blowsOf⟩
theorem lkX_166 : FL "OwedToWinds" 166 9 5 := ⟨RX9, TX9, 18, rfl, by decide, by decide, tbI 55 (by decide +kernel)⟩
theorem lkX_163 : VL "OwedToWinds" 163 nW_isWind 1 := ⟨mlW_isWind, tbI 863 (by decide +kernel), imW_isWind, seW_isWind⟩
theorem lkX_185 : VL "OwedToWinds" 185 nL_catchOf 3 := ⟨mlL_catchOf, tbI 872 (by decide +kernel), imL_catchOf, seL_catchOf⟩
theorem lkX_182 : FL "OwedToWinds" 182 9 7 := ⟨RX9, TX9, 18, rfl, by decide, by decide, tbI 63 (by decide +kernel)⟩
theorem lkX_179 : VL "OwedToWinds" 179 nW_isVillage 1 := ⟨mlW_isVillage, tbI 871 (by decide +kernel), imW_isVillage, seW_isVillage⟩
theorem lkX_191 : VL "OwedToWinds" 191 nL_takesOf 3 := ⟨mlL_takesOf, tbI 880 (by decide +kernel), imL_takesOf, seL_takesOf⟩
theorem lkX_188 : SL "OwedToWinds" 188 nX_isForce 1 := ⟨mlX_isForce, tbI 877 (by decide +kernel), stX_isForce⟩
theorem lkX_197 : VL "OwedToWinds" 197 nW_page 2 := ⟨mlW_page, tbI 897 (by decide +kernel), imW_page, seW_page⟩
theorem lkX_194 : VL "OwedToWinds" 194 nW_pages 0 := ⟨mlW_pages, tbI 893 (by decide +kernel), imW_pages, seW_pages⟩
theorem lkX_203 : VL "OwedToWinds" 203 nF_taken 1 := ⟨mlF_taken, tbI 911 (by decide +kernel), imF_taken, seF_taken⟩
theorem lkX_200 : SL "OwedToWinds" 200 nX_isFar 1 := ⟨mlX_isFar, tbI 908 (by decide +kernel), stX_isFar⟩
theorem lkX_206 : VL "OwedToWinds" 206 nF_later 2 := ⟨mlF_later, tbI 940 (by decide +kernel), imF_later, seF_later⟩
theorem lkX_209 : VL "OwedToWinds" 209 nF_daysToArrears 0 := ⟨mlF_daysToArrears, tbI 952 (by decide +kernel), imF_daysToArrears, seF_daysToArrears⟩
theorem lkX_212 : VL "OwedToWinds" 212 nF_daysToBroke 1 := ⟨mlF_daysToBroke, tbI 973 (by decide +kernel), imF_daysToBroke, seF_daysToBroke⟩
theorem lkX_215 : VL "OwedToWinds" 215 nF_mildestText 1 := ⟨mlF_mildestText, tbI 981 (by decide +kernel), imF_mildestText, seF_mildestText⟩
theorem lkX_228 : FL "OwedToWinds" 228 3 0 := ⟨RX3, TX3, 2, rfl, by decide, by decide, tbI 196 (by decide +kernel)⟩
theorem lkX_224 : FL "OwedToWinds" 224 3 1 := ⟨RX3, TX3, 2, rfl, by decide, by decide, tbI 198 (by decide +kernel)⟩
theorem lkX_220 : VL "OwedToWinds" 220 nQ_setOdds 3 := ⟨mlQ_setOdds, tbI 990 (by decide +kernel), imQ_setOdds, seQ_setOdds⟩
theorem lkX_218 : Cond.constantLong "OwedToWinds" 218 (-1) ∈ gtb := tbI 989 (by decide +kernel)
theorem lkX_237 : FL "OwedToWinds" 237 2 3 := ⟨RX2, TX2, 10, rfl, by decide, by decide, tbI 295 (by decide +kernel)⟩
theorem lkX_234 : FL "OwedToWinds" 234 2 4 := ⟨RX2, TX2, 10, rfl, by decide, by decide, tbI 297 (by decide +kernel)⟩
theorem lkX_231 : VL "OwedToWinds" 231 nF_findLeast 2 := ⟨mlF_findLeast, tbI 1004 (by decide +kernel), imF_findLeast, seF_findLeast⟩
theorem lkX_251 : FL "OwedToWinds" 251 6 2 := ⟨RX6, TX6, 6, rfl, by decide, by decide, tbI 336 (by decide +kernel)⟩
theorem lkX_254 : VL "OwedToWinds" 254 nQ_setShare 3 := ⟨mlQ_setShare, tbI 1031 (by decide +kernel), imQ_setShare, seQ_setShare⟩
theorem lkX_248 : VL "OwedToWinds" 248 nZ_findTakes 2 := ⟨mlZ_findTakes, tbI 1026 (by decide +kernel), imZ_findTakes, seZ_findTakes⟩
theorem lkX_243 : SL "OwedToWinds" 243 nJ_bitCount 1 := ⟨mlJ_bitCount, tbI 1020 (by decide +kernel), stJ_bitCount⟩
theorem lkX_240 : FL "OwedToWinds" 240 9 6 := ⟨RX9, TX9, 18, rfl, by decide, by decide, tbI 60 (by decide +kernel)⟩
theorem lkX_267 : FL "OwedToWinds" 267 2 9 := ⟨RX2, TX2, 10, rfl, by decide, by decide, tbI 305 (by decide +kernel)⟩
theorem lkX_264 : VL "OwedToWinds" 264 nF_lastAhead 1 := ⟨mlF_lastAhead, tbI 1070 (by decide +kernel), imF_lastAhead, seF_lastAhead⟩
theorem lkX_261 : VL "OwedToWinds" 261 nF_isReached 1 := ⟨mlF_isReached, tbI 1066 (by decide +kernel), imF_isReached, seF_isReached⟩
theorem lkX_258 : VL "OwedToWinds" 258 nF_setOut 1 := ⟨mlF_setOut, tbI 1046 (by decide +kernel), imF_setOut, seF_setOut⟩
theorem lkX_273 : FL "OwedToWinds" 273 9 12 := ⟨RX9, TX9, 18, rfl, by decide, by decide, tbI 77 (by decide +kernel)⟩
theorem lkX_270 : FL "OwedToWinds" 270 9 11 := ⟨RX9, TX9, 18, rfl, by decide, by decide, tbI 74 (by decide +kernel)⟩
theorem lkX_276 : FL "OwedToWinds" 276 9 13 := ⟨RX9, TX9, 18, rfl, by decide, by decide, tbI 80 (by decide +kernel)⟩
theorem lkX_279 : VL "OwedToWinds" 279 nZ_fittingWinds 0 := ⟨mlZ_fittingWinds, tbI 1082 (by decide +kernel), imZ_fittingWinds, seZ_fittingWinds⟩
theorem lkX_282 : VL "OwedToWinds" 282 nZ_fittingForces 1 := ⟨mlZ_fittingForces, tbI 1098 (by decide +kernel), imZ_fittingForces, seZ_fittingForces⟩
theorem lkX_285 : VL "OwedToWinds" 285 nZ_nextVane 0 := ⟨mlZ_nextVane, tbI 1103 (by decide +kernel), imZ_nextVane, seZ_nextVane⟩
theorem lkX_291 : FL "OwedToWinds" 291 9 15 := ⟨RX9, TX9, 18, rfl, by decide, by decide, tbI 86 (by decide +kernel)⟩
theorem lkX_288 : FL "OwedToWinds" 288 9 14 := ⟨RX9, TX9, 18, rfl, by decide, by decide, tbI 83 (by decide +kernel)⟩
theorem lkX_297 : VL "OwedToWinds" 297 nZ_countRows 0 := ⟨mlZ_countRows, tbI 1128 (by decide +kernel), imZ_countRows, seZ_countRows⟩
theorem lkX_294 : VL "OwedToWinds" 294 nZ_findSails 2 := ⟨mlZ_findSails, tbI 1123 (by decide +kernel), imZ_findSails, seZ_findSails⟩
theorem lkX_300 : VL "OwedToWinds" 300 nZ_surePayment 1 := ⟨mlZ_surePayment, tbI 1147 (by decide +kernel), imZ_surePayment, seZ_surePayment⟩
theorem lkX_306 : FL "OwedToWinds" 306 9 17 := ⟨RX9, TX9, 18, rfl, by decide, by decide, tbI 90 (by decide +kernel)⟩
theorem lkX_303 : FL "OwedToWinds" 303 9 16 := ⟨RX9, TX9, 18, rfl, by decide, by decide, tbI 88 (by decide +kernel)⟩
theorem lkX_315 : VL "OwedToWinds" 315 nC_piecesOf 3 := ⟨mlC_piecesOf, tbI 1168 (by decide +kernel), imC_piecesOf, seC_piecesOf⟩
theorem lkX_312 : FL "OwedToWinds" 312 0 0 := ⟨RX0, TX0, 1, rfl, by decide, by decide, tbI 211 (by decide +kernel)⟩
theorem lkX_309 : VL "OwedToWinds" 309 nC_count 3 := ⟨mlC_count, tbI 1164 (by decide +kernel), imC_count, seC_count⟩
theorem lkX_325 : FL "OwedToWinds" 325 2 5 := ⟨RX2, TX2, 10, rfl, by decide, by decide, tbI 299 (by decide +kernel)⟩
theorem lkX_322 : FL "OwedToWinds" 322 2 6 := ⟨RX2, TX2, 10, rfl, by decide, by decide, tbI 301 (by decide +kernel)⟩
theorem lkX_319 : VL "OwedToWinds" 319 nF_countCalms 1 := ⟨mlF_countCalms, tbI 1176 (by decide +kernel), imF_countCalms, seF_countCalms⟩
theorem lkX_331 : VL "OwedToWinds" 331 nW_isHere 1 := ⟨mlW_isHere, tbI 1185 (by decide +kernel), imW_isHere, seW_isHere⟩
theorem lkX_328 : FL "OwedToWinds" 328 9 4 := ⟨RX9, TX9, 18, rfl, by decide, by decide, tbI 51 (by decide +kernel)⟩
theorem lkX_334 : VL "OwedToWinds" 334 nW_copyFrom 1 := ⟨mlW_copyFrom, tbI 1202 (by decide +kernel), imW_copyFrom, seW_copyFrom⟩
theorem lkM_1 : Cond.methodLink "OwedToWindsModel" 1 Lib.objectInit ∈ gtb := tbI 1219 (by decide +kernel)
theorem lkM_7 : FL "OwedToWindsModel" 7 11 0 := ⟨RX11, TX11, 38, rfl, by decide, by decide, tbI 1223 (by decide +kernel)⟩
theorem lkM_13 : FL "OwedToWindsModel" 13 11 1 := ⟨RX11, TX11, 38, rfl, by decide, by decide, tbI 1224 (by decide +kernel)⟩
theorem lkM_16 : FL "OwedToWindsModel" 16 11 2 := ⟨RX11, TX11, 38, rfl, by decide, by decide, tbI 1225 (by decide +kernel)⟩
theorem lkM_19 : FL "OwedToWindsModel" 19 11 3 := ⟨RX11, TX11, 38, rfl, by decide, by decide, tbI 1226 (by decide +kernel)⟩
theorem lkM_22 : FL "OwedToWindsModel" 22 11 5 := ⟨RX11, TX11, 38, rfl, by decide, by decide, tbI 1228 (by decide +kernel)⟩
theorem lkM_26 : FL "OwedToWindsModel" 26 11 6 := ⟨RX11, TX11, 38, rfl, by decide, by decide, tbI 1229 (by decide +kernel)⟩
theorem lkM_29 : FL "OwedToWindsModel" 29 11 15 := ⟨RX11, TX11, 38, rfl, by decide, by decide, tbI 1238 (by decide +kernel)⟩
theorem lkM_32 : FL "OwedToWindsModel" 32 11 21 := ⟨RX11, TX11, 38, rfl, by decide, by decide, tbI 1244 (by decide +kernel)⟩
theorem lkM_35 : FL "OwedToWindsModel" 35 11 22 := ⟨RX11, TX11, 38, rfl, by decide, by decide, tbI 1245 (by decide +kernel)⟩
theorem lkM_39 : FL "OwedToWindsModel" 39 11 23 := ⟨RX11, TX11, 38, rfl, by decide, by decide, tbI 1246 (by decide +kernel)⟩
theorem lkM_43 : FL "OwedToWindsModel" 43 11 24 := ⟨RX11, TX11, 38, rfl, by decide, by decide, tbI 1247 (by decide +kernel)⟩
theorem lkM_47 : FL "OwedToWindsModel" 47 11 29 := ⟨RX11, TX11, 38, rfl, by decide, by decide, tbI 1252 (by decide +kernel)⟩
theorem lkM_50 : FL "OwedToWindsModel" 50 11 30 := ⟨RX11, TX11, 38, rfl, by decide, by decide, tbI 1253 (by decide +kernel)⟩
theorem lkM_53 : FL "OwedToWindsModel" 53 11 31 := ⟨RX11, TX11, 38, rfl, by decide, by decide, tbI 1254 (by decide +kernel)⟩
theorem lkM_56 : FL "OwedToWindsModel" 56 11 32 := ⟨RX11, TX11, 38, rfl, by decide, by decide, tbI 1255 (by decide +kernel)⟩
theorem lkM_59 : FL "OwedToWindsModel" 59 11 33 := ⟨RX11, TX11, 38, rfl, by decide, by decide, tbI 1256 (by decide +kernel)⟩
theorem lkM_62 : FL "OwedToWindsModel" 62 11 34 := ⟨RX11, TX11, 38, rfl, by decide, by decide, tbI 1257 (by decide +kernel)⟩
theorem lkM_65 : FL "OwedToWindsModel" 65 11 36 := ⟨RX11, TX11, 38, rfl, by decide, by decide, tbI 1259 (by decide +kernel)⟩
theorem lkM_68 : FL "OwedToWindsModel" 68 11 37 := ⟨RX11, TX11, 38, rfl, by decide, by decide, tbI 1260 (by decide +kernel)⟩
theorem lkM_71 : SL "OwedToWindsModel" 71 nM_copy 2 := ⟨mlM_copy, tbI 1220 (by decide +kernel), stM_copy⟩
theorem lkM_75 : SL "OwedToWindsModel" 75 nM_isIn 3 := ⟨mlM_isIn, tbI 1343 (by decide +kernel), stM_isIn⟩
theorem lkM_83 : VL "OwedToWindsModel" 83 nM_get 2 := ⟨mlM_get, tbI 1354 (by decide +kernel), imM_get, seM_get⟩
theorem lkM_79 : VL "OwedToWindsModel" 79 nM_isWind 1 := ⟨mlM_isWind, tbI 1558 (by decide +kernel), imM_isWind, seM_isWind⟩
theorem lkM_91 : VL "OwedToWindsModel" 91 nM_begin 1 := ⟨mlM_begin, tbI 1350 (by decide +kernel), imM_begin, seM_begin⟩
theorem lkM_87 : VL "OwedToWindsModel" 87 nM_put 3 := ⟨mlM_put, tbI 1346 (by decide +kernel), imM_put, seM_put⟩
theorem lkM_95 : VL "OwedToWindsModel" 95 nM_lay 3 := ⟨mlM_lay, tbI 1362 (by decide +kernel), imM_lay, seM_lay⟩
theorem lkM_98 : VL "OwedToWindsModel" 98 nM_isVillage 1 := ⟨mlM_isVillage, tbI 1370 (by decide +kernel), imM_isVillage, seM_isVillage⟩
theorem lkM_101 : FL "OwedToWindsModel" 101 11 4 := ⟨RX11, TX11, 38, rfl, by decide, by decide, tbI 1227 (by decide +kernel)⟩
theorem lkM_104 : VL "OwedToWindsModel" 104 nM_four 1 := ⟨mlM_four, tbI 1378 (by decide +kernel), imM_four, seM_four⟩
theorem lkM_117 : FL "OwedToWindsModel" 117 11 9 := ⟨RX11, TX11, 38, rfl, by decide, by decide, tbI 1232 (by decide +kernel)⟩
theorem lkM_107 : FL "OwedToWindsModel" 107 11 7 := ⟨RX11, TX11, 38, rfl, by decide, by decide, tbI 1230 (by decide +kernel)⟩
theorem lkM_110 : VL "OwedToWindsModel" 110 nM_byteAt 1 := ⟨mlM_byteAt, tbI 1398 (by decide +kernel), imM_byteAt, seM_byteAt⟩
theorem lkM_136 : SL "OwedToWindsModel" 136 nM_isSign 1 := ⟨mlM_isSign, tbI 1410 (by decide +kernel), stM_isSign⟩
theorem lkM_130 : FL "OwedToWindsModel" 130 11 11 := ⟨RX11, TX11, 38, rfl, by decide, by decide, tbI 1234 (by decide +kernel)⟩
theorem lkM_134 : Cond.constantLong "OwedToWindsModel" 134 1152921504606846976 ∈ gtb := tbI 1409 (by decide +kernel)
theorem lkM_127 : SL "OwedToWindsModel" 127 nM_isLetterByte 1 := ⟨mlM_isLetterByte, tbI 1406 (by decide +kernel), stM_isLetterByte⟩
theorem lkM_123 : FL "OwedToWindsModel" 123 11 10 := ⟨RX11, TX11, 38, rfl, by decide, by decide, tbI 1233 (by decide +kernel)⟩
theorem lkM_126 : Cond.constant "OwedToWindsModel" 126 99999 ∈ gtb := tbI 1405 (by decide +kernel)
theorem lkM_120 : SL "OwedToWindsModel" 120 nM_isFigure 1 := ⟨mlM_isFigure, tbI 1402 (by decide +kernel), stM_isFigure⟩
theorem lkM_114 : FL "OwedToWindsModel" 114 11 8 := ⟨RX11, TX11, 38, rfl, by decide, by decide, tbI 1231 (by decide +kernel)⟩
theorem lkM_139 : SL "OwedToWindsModel" 139 nM_w2 2 := ⟨mlM_w2, tbI 1430 (by decide +kernel), stM_w2⟩
theorem lkM_143 : SL "OwedToWindsModel" 143 nM_w3 3 := ⟨mlM_w3, tbI 1427 (by decide +kernel), stM_w3⟩
theorem lkM_147 : SL "OwedToWindsModel" 147 nM_w4 4 := ⟨mlM_w4, tbI 1424 (by decide +kernel), stM_w4⟩
theorem lkM_151 : SL "OwedToWindsModel" 151 nM_w5 5 := ⟨mlM_w5, tbI 1421 (by decide +kernel), stM_w5⟩
theorem lkM_155 : FL "OwedToWindsModel" 155 11 12 := ⟨RX11, TX11, 38, rfl, by decide, by decide, tbI 1235 (by decide +kernel)⟩
theorem lkM_158 : FL "OwedToWindsModel" 158 11 13 := ⟨RX11, TX11, 38, rfl, by decide, by decide, tbI 1236 (by decide +kernel)⟩
theorem lkM_165 : SL "OwedToWindsModel" 165 nM_w6 6 := ⟨mlM_w6, tbI 1448 (by decide +kernel), stM_w6⟩
theorem lkM_161 : VL "OwedToWindsModel" 161 nM_isLong 2 := ⟨mlM_isLong, tbI 1437 (by decide +kernel), imM_isLong, seM_isLong⟩
theorem lkM_169 : FL "OwedToWindsModel" 169 11 14 := ⟨RX11, TX11, 38, rfl, by decide, by decide, tbI 1237 (by decide +kernel)⟩
theorem lkM_182 : FL "OwedToWindsModel" 182 11 17 := ⟨RX11, TX11, 38, rfl, by decide, by decide, tbI 1240 (by decide +kernel)⟩
theorem lkM_172 : FL "OwedToWindsModel" 172 11 16 := ⟨RX11, TX11, 38, rfl, by decide, by decide, tbI 1239 (by decide +kernel)⟩
theorem lkM_175 : SL "OwedToWindsModel" 175 nM_rank 1 := ⟨mlM_rank, tbI 1491 (by decide +kernel), stM_rank⟩
theorem lkM_178 : VL "OwedToWindsModel" 178 nM_emit 2 := ⟨mlM_emit, tbI 1502 (by decide +kernel), imM_emit, seM_emit⟩
theorem lkM_188 : VL "OwedToWindsModel" 188 nM_isOpen 0 := ⟨mlM_isOpen, tbI 1483 (by decide +kernel), imM_isOpen, seM_isOpen⟩
theorem lkM_185 : FL "OwedToWindsModel" 185 11 19 := ⟨RX11, TX11, 38, rfl, by decide, by decide, tbI 1242 (by decide +kernel)⟩
theorem lkM_192 : VL "OwedToWindsModel" 192 nM_nextToken 0 := ⟨mlM_nextToken, tbI 1394 (by decide +kernel), imM_nextToken, seM_nextToken⟩
theorem lkM_205 : VL "OwedToWindsModel" 205 nM_opened 1 := ⟨mlM_opened, tbI 1522 (by decide +kernel), imM_opened, seM_opened⟩
theorem lkM_212 : VL "OwedToWindsModel" 212 nM_isAskAhead 0 := ⟨mlM_isAskAhead, tbI 1526 (by decide +kernel), imM_isAskAhead, seM_isAskAhead⟩
theorem lkM_208 : VL "OwedToWindsModel" 208 nM_isWord 1 := ⟨mlM_isWord, tbI 1433 (by decide +kernel), imM_isWord, seM_isWord⟩
theorem lkM_202 : VL "OwedToWindsModel" 202 nM_endOne 0 := ⟨mlM_endOne, tbI 1506 (by decide +kernel), imM_endOne, seM_endOne⟩
theorem lkM_199 : VL "OwedToWindsModel" 199 nM_isOf 1 := ⟨mlM_isOf, tbI 1518 (by decide +kernel), imM_isOf, seM_isOf⟩
theorem lkM_195 : VL "OwedToWindsModel" 195 nM_nameOf 0 := ⟨mlM_nameOf, tbI 1514 (by decide +kernel), imM_nameOf, seM_nameOf⟩
theorem lkM_218 : FL "OwedToWindsModel" 218 11 18 := ⟨RX11, TX11, 38, rfl, by decide, by decide, tbI 1241 (by decide +kernel)⟩
theorem lkM_215 : VL "OwedToWindsModel" 215 nM_settle 1 := ⟨mlM_settle, tbI 1498 (by decide +kernel), imM_settle, seM_settle⟩
theorem lkM_224 : VL "OwedToWindsModel" 224 nM_compareOf 0 := ⟨mlM_compareOf, tbI 1494 (by decide +kernel), imM_compareOf, seM_compareOf⟩
theorem lkM_221 : VL "OwedToWindsModel" 221 nM_isCompared 0 := ⟨mlM_isCompared, tbI 1487 (by decide +kernel), imM_isCompared, seM_isCompared⟩
theorem lkM_227 : VL "OwedToWindsModel" 227 nM_betweenOf 0 := ⟨mlM_betweenOf, tbI 1479 (by decide +kernel), imM_betweenOf, seM_betweenOf⟩
theorem lkM_233 : VL "OwedToWindsModel" 233 nM_beginOne 0 := ⟨mlM_beginOne, tbI 1510 (by decide +kernel), imM_beginOne, seM_beginOne⟩
theorem lkM_230 : VL "OwedToWindsModel" 230 nM_behindOne 0 := ⟨mlM_behindOne, tbI 1475 (by decide +kernel), imM_behindOne, seM_behindOne⟩
theorem lkM_236 : VL "OwedToWindsModel" 236 nM_figure 3 := ⟨mlM_figure, tbI 1455 (by decide +kernel), imM_figure, seM_figure⟩
theorem lkM_240 : VL "OwedToWindsModel" 240 nM_parsed 1 := ⟨mlM_parsed, tbI 1471 (by decide +kernel), imM_parsed, seM_parsed⟩
theorem lkM_244 : VL "OwedToWindsModel" 244 nM_worded 4 := ⟨mlM_worded, tbI 1459 (by decide +kernel), imM_worded, seM_worded⟩
theorem lkM_256 : VL "OwedToWindsModel" 256 nM_lawClause 2 := ⟨mlM_lawClause, tbI 1467 (by decide +kernel), imM_lawClause, seM_lawClause⟩
theorem lkM_252 : VL "OwedToWindsModel" 252 nM_two0 4 := ⟨mlM_two0, tbI 1463 (by decide +kernel), imM_two0, seM_two0⟩
theorem lkM_248 : VL "OwedToWindsModel" 248 nM_three 7 := ⟨mlM_three, tbI 1451 (by decide +kernel), imM_three, seM_three⟩
theorem lkM_270 : VL "OwedToWindsModel" 270 nM_body 2 := ⟨mlM_body, tbI 1444 (by decide +kernel), imM_body, seM_body⟩
theorem lkM_263 : FL "OwedToWindsModel" 263 11 20 := ⟨RX11, TX11, 38, rfl, by decide, by decide, tbI 1243 (by decide +kernel)⟩
theorem lkM_266 : SL "OwedToWindsModel" 266 nM_has 2 := ⟨mlM_has, tbI 1441 (by decide +kernel), stM_has⟩
theorem lkM_260 : VL "OwedToWindsModel" 260 nM_sortOf 0 := ⟨mlM_sortOf, tbI 1417 (by decide +kernel), imM_sortOf, seM_sortOf⟩
theorem lkM_273 : VL "OwedToWindsModel" 273 nM_clause 0 := ⟨mlM_clause, tbI 1413 (by decide +kernel), imM_clause, seM_clause⟩
theorem lkM_276 : VL "OwedToWindsModel" 276 nM_readText 0 := ⟨mlM_readText, tbI 1390 (by decide +kernel), imM_readText, seM_readText⟩
theorem lkM_281 : Cond.constantLong "OwedToWindsModel" 281 (-1000000) ∈ gtb := tbI 1630 (by decide +kernel)
theorem lkM_279 : Cond.constantLong "OwedToWindsModel" 279 1000000 ∈ gtb := tbI 1629 (by decide +kernel)
theorem lkM_283 : SL "OwedToWindsModel" 283 nM_clip 1 := ⟨mlM_clip, tbI 1626 (by decide +kernel), stM_clip⟩
theorem lkM_287 : Cond.constantLong "OwedToWindsModel" 287 2 ∈ gtb := tbI 1620 (by decide +kernel)
theorem lkM_310 : SL "OwedToWindsModel" 310 nM_joined 3 := ⟨mlM_joined, tbI 1634 (by decide +kernel), stM_joined⟩
theorem lkM_306 : SL "OwedToWindsModel" 306 nM_isAsked 3 := ⟨mlM_isAsked, tbI 1631 (by decide +kernel), stM_isAsked⟩
theorem lkM_302 : SL "OwedToWindsModel" 302 nM_two 3 := ⟨mlM_two, tbI 1623 (by decide +kernel), stM_two⟩
theorem lkM_296 : Cond.constant "OwedToWindsModel" 296 (-1000000) ∈ gtb := tbI 1621 (by decide +kernel)
theorem lkM_297 : Cond.constant "OwedToWindsModel" 297 1000000 ∈ gtb := tbI 1622 (by decide +kernel)
theorem lkM_298 : SL "OwedToWindsModel" 298 nM_cut 3 := ⟨mlM_cut, tbI 1578 (by decide +kernel), stM_cut⟩
theorem lkM_292 : SL "OwedToWindsModel" 292 nM_rounded 2 := ⟨mlM_rounded, tbI 1617 (by decide +kernel), stM_rounded⟩
theorem lkM_289 : VL "OwedToWindsModel" 289 nM_debtOf 1 := ⟨mlM_debtOf, tbI 1613 (by decide +kernel), imM_debtOf, seM_debtOf⟩
theorem lkM_317 : VL "OwedToWindsModel" 317 nM_work 1 := ⟨mlM_work, tbI 1609 (by decide +kernel), imM_work, seM_work⟩
theorem lkM_314 : VL "OwedToWindsModel" 314 nM_clauseOf 1 := ⟨mlM_clauseOf, tbI 1605 (by decide +kernel), imM_clauseOf, seM_clauseOf⟩
theorem lkM_320 : VL "OwedToWindsModel" 320 nM_name 3 := ⟨mlM_name, tbI 1597 (by decide +kernel), imM_name, seM_name⟩
theorem lkM_323 : VL "OwedToWindsModel" 323 nM_says 3 := ⟨mlM_says, tbI 1601 (by decide +kernel), imM_says, seM_says⟩
theorem lkM_326 : VL "OwedToWindsModel" 326 nM_blowsOf 3 := ⟨mlM_blowsOf, tbI 1664 (by decide +kernel), imM_blowsOf, seM_blowsOf⟩
theorem lkM_329 : VL "OwedToWindsModel" 329 nM_of 2 := ⟨mlM_of, tbI 1542 (by decide +kernel), imM_of, seM_of⟩
theorem lkM_332 : VL "OwedToWindsModel" 332 nM_nameVillage 3 := ⟨mlM_nameVillage, tbI 1676 (by decide +kernel), imM_nameVillage, seM_nameVillage⟩
theorem lkM_335 : Cond.constantLong "OwedToWindsModel" 335 353 ∈ gtb := tbI 1653 (by decide +kernel)
theorem lkM_337 : Cond.constantLong "OwedToWindsModel" 337 233 ∈ gtb := tbI 1654 (by decide +kernel)
theorem lkM_339 : Cond.constantLong "OwedToWindsModel" 339 30427 ∈ gtb := tbI 1655 (by decide +kernel)
theorem lkM_344 : VL "OwedToWindsModel" 344 nM_anew 0 := ⟨mlM_anew, tbI 1649 (by decide +kernel), imM_anew, seM_anew⟩
theorem lkM_341 : VL "OwedToWindsModel" 341 nM_weights 0 := ⟨mlM_weights, tbI 1645 (by decide +kernel), imM_weights, seM_weights⟩
theorem lkM_353 : FL "OwedToWindsModel" 353 11 26 := ⟨RX11, TX11, 38, rfl, by decide, by decide, tbI 1249 (by decide +kernel)⟩
theorem lkM_350 : FL "OwedToWindsModel" 350 11 25 := ⟨RX11, TX11, 38, rfl, by decide, by decide, tbI 1248 (by decide +kernel)⟩
theorem lkM_359 : VL "OwedToWindsModel" 359 nM_blowsNow 1 := ⟨mlM_blowsNow, tbI 1660 (by decide +kernel), imM_blowsNow, seM_blowsNow⟩
theorem lkM_356 : VL "OwedToWindsModel" 356 nM_isComing 1 := ⟨mlM_isComing, tbI 1656 (by decide +kernel), imM_isComing, seM_isComing⟩
theorem lkM_347 : VL "OwedToWindsModel" 347 nM_drawn 0 := ⟨mlM_drawn, tbI 1641 (by decide +kernel), imM_drawn, seM_drawn⟩
theorem lkM_368 : VL "OwedToWindsModel" 368 nM_catchOf 3 := ⟨mlM_catchOf, tbI 1680 (by decide +kernel), imM_catchOf, seM_catchOf⟩
theorem lkM_365 : FL "OwedToWindsModel" 365 11 27 := ⟨RX11, TX11, 38, rfl, by decide, by decide, tbI 1250 (by decide +kernel)⟩
theorem lkM_362 : VL "OwedToWindsModel" 362 nM_takesOf 3 := ⟨mlM_takesOf, tbI 1672 (by decide +kernel), imM_takesOf, seM_takesOf⟩
theorem lkM_380 : VL "OwedToWindsModel" 380 nM_write 0 := ⟨mlM_write, tbI 1684 (by decide +kernel), imM_write, seM_write⟩
theorem lkM_377 : VL "OwedToWindsModel" 377 nM_takeFrom 1 := ⟨mlM_takeFrom, tbI 1668 (by decide +kernel), imM_takeFrom, seM_takeFrom⟩
theorem lkM_374 : VL "OwedToWindsModel" 374 nM_blow 0 := ⟨mlM_blow, tbI 1637 (by decide +kernel), imM_blow, seM_blow⟩
theorem lkM_371 : VL "OwedToWindsModel" 371 nM_duesOf 1 := ⟨mlM_duesOf, tbI 1593 (by decide +kernel), imM_duesOf, seM_duesOf⟩
theorem lkM_383 : VL "OwedToWindsModel" 383 nM_isHere 1 := ⟨mlM_isHere, tbI 1554 (by decide +kernel), imM_isHere, seM_isHere⟩
theorem lkM_392 : VL "OwedToWindsModel" 392 nM_payNow 3 := ⟨mlM_payNow, tbI 1566 (by decide +kernel), imM_payNow, seM_payNow⟩
theorem lkM_389 : VL "OwedToWindsModel" 389 nM_keep 0 := ⟨mlM_keep, tbI 1562 (by decide +kernel), imM_keep, seM_keep⟩
theorem lkM_386 : VL "OwedToWindsModel" 386 nM_canPay 3 := ⟨mlM_canPay, tbI 1550 (by decide +kernel), imM_canPay, seM_canPay⟩
theorem lkM_395 : VL "OwedToWindsModel" 395 nM_mergeNow 2 := ⟨mlM_mergeNow, tbI 1574 (by decide +kernel), imM_mergeNow, seM_mergeNow⟩
theorem lkM_398 : FL "OwedToWindsModel" 398 11 28 := ⟨RX11, TX11, 38, rfl, by decide, by decide, tbI 1251 (by decide +kernel)⟩
theorem lkM_401 : VL "OwedToWindsModel" 401 nM_pass 0 := ⟨mlM_pass, tbI 1589 (by decide +kernel), imM_pass, seM_pass⟩
theorem lkM_404 : VL "OwedToWindsModel" 404 nM_arePassed 1 := ⟨mlM_arePassed, tbI 1585 (by decide +kernel), imM_arePassed, seM_arePassed⟩
theorem lkM_419 : VL "OwedToWindsModel" 419 nM_merge 2 := ⟨mlM_merge, tbI 1700 (by decide +kernel), imM_merge, seM_merge⟩
theorem lkM_416 : VL "OwedToWindsModel" 416 nM_pay 3 := ⟨mlM_pay, tbI 1699 (by decide +kernel), imM_pay, seM_pay⟩
theorem lkM_413 : VL "OwedToWindsModel" 413 nM_way 3 := ⟨mlM_way, tbI 1698 (by decide +kernel), imM_way, seM_way⟩
theorem lkM_410 : VL "OwedToWindsModel" 410 nM_village 2 := ⟨mlM_village, tbI 1697 (by decide +kernel), imM_village, seM_village⟩
theorem lkM_407 : VL "OwedToWindsModel" 407 nM_wind 3 := ⟨mlM_wind, tbI 1696 (by decide +kernel), imM_wind, seM_wind⟩
theorem lkM_422 : VL "OwedToWindsModel" 422 nM_isPlayed 1 := ⟨mlM_isPlayed, tbI 1692 (by decide +kernel), imM_isPlayed, seM_isPlayed⟩
theorem lkM_425 : VL "OwedToWindsModel" 425 nM_happens 1 := ⟨mlM_happens, tbI 1705 (by decide +kernel), imM_happens, seM_happens⟩
theorem lkM_428 : VL "OwedToWindsModel" 428 nM_shown 0 := ⟨mlM_shown, tbI 1733 (by decide +kernel), imM_shown, seM_shown⟩
theorem lkM_431 : VL "OwedToWindsModel" 431 nM_entry 2 := ⟨mlM_entry, tbI 1737 (by decide +kernel), imM_entry, seM_entry⟩
theorem lkM_440 : VL "OwedToWindsModel" 440 nM_putBack 0 := ⟨mlM_putBack, tbI 1777 (by decide +kernel), imM_putBack, seM_putBack⟩
theorem lkM_437 : VL "OwedToWindsModel" 437 nM_goOn 0 := ⟨mlM_goOn, tbI 1773 (by decide +kernel), imM_goOn, seM_goOn⟩
theorem lkM_434 : VL "OwedToWindsModel" 434 nM_setAside 0 := ⟨mlM_setAside, tbI 1769 (by decide +kernel), imM_setAside, seM_setAside⟩
theorem lkM_443 : VL "OwedToWindsModel" 443 nM_behind 2 := ⟨mlM_behind, tbI 1765 (by decide +kernel), imM_behind, seM_behind⟩
theorem lkM_446 : VL "OwedToWindsModel" 446 nM_takenIn 1 := ⟨mlM_takenIn, tbI 1761 (by decide +kernel), imM_takenIn, seM_takenIn⟩
theorem lkM_449 : VL "OwedToWindsModel" 449 nM_isInArrears 0 := ⟨mlM_isInArrears, tbI 1793 (by decide +kernel), imM_isInArrears, seM_isInArrears⟩
theorem lkM_452 : Cond.constant "OwedToWindsModel" 452 1000000000 ∈ gtb := tbI 1805 (by decide +kernel)
theorem lkM_453 : SL "OwedToWindsModel" 453 nM_common 2 := ⟨mlM_common, tbI 1818 (by decide +kernel), stM_common⟩
theorem lkM_458 : SL "OwedToWindsModel" 458 nM_part 3 := ⟨mlM_part, tbI 1815 (by decide +kernel), stM_part⟩
theorem lkM_456 : Cond.constantLong "OwedToWindsModel" 456 (-1) ∈ gtb := tbI 1814 (by decide +kernel)
theorem lkM_462 : VL "OwedToWindsModel" 462 nM_owedBy 2 := ⟨mlM_owedBy, tbI 1825 (by decide +kernel), imM_owedBy, seM_owedBy⟩
theorem lkM_465 : VL "OwedToWindsModel" 465 nM_takenBy 2 := ⟨mlM_takenBy, tbI 1829 (by decide +kernel), imM_takenBy, seM_takenBy⟩
theorem lkM_474 : VL "OwedToWindsModel" 474 nM_nextRow 1 := ⟨mlM_nextRow, tbI 1844 (by decide +kernel), imM_nextRow, seM_nextRow⟩
theorem lkM_471 : VL "OwedToWindsModel" 471 nM_added 2 := ⟨mlM_added, tbI 1840 (by decide +kernel), imM_added, seM_added⟩
theorem lkM_468 : SL "OwedToWindsModel" 468 nM_bits 1 := ⟨mlM_bits, tbI 1837 (by decide +kernel), stM_bits⟩
theorem lkM_477 : FL "OwedToWindsModel" 477 11 35 := ⟨RX11, TX11, 38, rfl, by decide, by decide, tbI 1258 (by decide +kernel)⟩
theorem lkM_480 : VL "OwedToWindsModel" 480 nM_reached 2 := ⟨mlM_reached, tbI 1860 (by decide +kernel), imM_reached, seM_reached⟩
theorem lkM_486 : VL "OwedToWindsModel" 486 nM_arrival 2 := ⟨mlM_arrival, tbI 1856 (by decide +kernel), imM_arrival, seM_arrival⟩
theorem lkM_483 : VL "OwedToWindsModel" 483 nM_laySpeeds 0 := ⟨mlM_laySpeeds, tbI 1852 (by decide +kernel), imM_laySpeeds, seM_laySpeeds⟩
theorem lkM_489 : VL "OwedToWindsModel" 489 nM_isFitting 2 := ⟨mlM_isFitting, tbI 1876 (by decide +kernel), imM_isFitting, seM_isFitting⟩
theorem lkM_492 : VL "OwedToWindsModel" 492 nM_strengthsOf 1 := ⟨mlM_strengthsOf, tbI 1872 (by decide +kernel), imM_strengthsOf, seM_strengthsOf⟩
theorem lkM_498 : VL "OwedToWindsModel" 498 nM_answers 1 := ⟨mlM_answers, tbI 1892 (by decide +kernel), imM_answers, seM_answers⟩
theorem lkM_495 : VL "OwedToWindsModel" 495 nM_isRead 1 := ⟨mlM_isRead, tbI 1888 (by decide +kernel), imM_isRead, seM_isRead⟩
theorem lkM_501 : SL "OwedToWindsModel" 501 nM_paymentOf 2 := ⟨mlM_paymentOf, tbI 1912 (by decide +kernel), stM_paymentOf⟩
theorem lkM_507 : VL "OwedToWindsModel" 507 nM_isTorn 3 := ⟨mlM_isTorn, tbI 1908 (by decide +kernel), imM_isTorn, seM_isTorn⟩
theorem lkM_504 : VL "OwedToWindsModel" 504 nM_canTear 2 := ⟨mlM_canTear, tbI 1904 (by decide +kernel), imM_canTear, seM_canTear⟩
theorem lkM_510 : VL "OwedToWindsModel" 510 nM_layPieces 1 := ⟨mlM_layPieces, tbI 1927 (by decide +kernel), imM_layPieces, seM_layPieces⟩
theorem lkC_3 : Cond.methodLink "OwedToWinds$Coins" 3 Lib.objectInit ∈ gtb := tbI 209 (by decide +kernel)
theorem lkC_9 : FL "OwedToWinds$Coins" 9 0 0 := ⟨RX0, TX0, 1, rfl, by decide, by decide, tbI 210 (by decide +kernel)⟩
theorem lkD_3 : Cond.methodLink "OwedToWinds$Days" 3 Lib.objectInit ∈ gtb := tbI 266 (by decide +kernel)
theorem lkD_9 : FL "OwedToWinds$Days" 9 1 2 := ⟨RX1, TX1, 5, rfl, by decide, by decide, tbI 269 (by decide +kernel)⟩
theorem lkD_15 : FL "OwedToWinds$Days" 15 1 3 := ⟨RX1, TX1, 5, rfl, by decide, by decide, tbI 270 (by decide +kernel)⟩
theorem lkD_18 : FL "OwedToWinds$Days" 18 1 4 := ⟨RX1, TX1, 5, rfl, by decide, by decide, tbI 271 (by decide +kernel)⟩
theorem lkD_21 : FL "OwedToWinds$Days" 21 1 0 := ⟨RX1, TX1, 5, rfl, by decide, by decide, tbI 267 (by decide +kernel)⟩
theorem lkD_25 : FL "OwedToWinds$Days" 25 1 1 := ⟨RX1, TX1, 5, rfl, by decide, by decide, tbI 268 (by decide +kernel)⟩
theorem lkD_35 : SL "OwedToWinds$Days" 35 nJ_max 2 := ⟨mlJ_max, tbI 711 (by decide +kernel), stJ_max⟩
theorem lkD_29 : FL "OwedToWinds$Days" 29 9 5 := ⟨RX9, TX9, 18, rfl, by decide, by decide, tbI 53 (by decide +kernel)⟩
theorem lkD_80 : VL "OwedToWinds$Days" 80 nW_writePage 3 := ⟨mlW_writePage, tbI 812 (by decide +kernel), imW_writePage, seW_writePage⟩
theorem lkD_57 : SL "OwedToWinds$Days" 57 nJ_min 2 := ⟨mlJ_min, tbI 710 (by decide +kernel), stJ_min⟩
theorem lkD_77 : VL "OwedToWinds$Days" 77 nL_catchOf 3 := ⟨mlL_catchOf, tbI 808 (by decide +kernel), imL_catchOf, seL_catchOf⟩
theorem lkD_70 : FL "OwedToWinds$Days" 70 9 6 := ⟨RX9, TX9, 18, rfl, by decide, by decide, tbI 58 (by decide +kernel)⟩
theorem lkD_73 : VL "OwedToWinds$Days" 73 nL_takesOf 3 := ⟨mlL_takesOf, tbI 804 (by decide +kernel), imL_takesOf, seL_takesOf⟩
theorem lkD_67 : VL "OwedToWinds$Days" 67 nL_blowsOf 1 := ⟨mlL_blowsOf, tbI 800 (by decide +kernel), imL_blowsOf, seL_blowsOf⟩
theorem lkD_64 : VL "OwedToWinds$Days" 64 nL_comesOf 1 := ⟨mlL_comesOf, tbI 796 (by decide +kernel), imL_comesOf, seL_comesOf⟩
theorem lkD_60 : VL "OwedToWinds$Days" 60 nD_drawnWind 0 := ⟨mlD_drawnWind, tbI 778 (by decide +kernel), imD_drawnWind, seD_drawnWind⟩
theorem lkD_51 : VL "OwedToWinds$Days" 51 nL_duesOf 1 := ⟨mlL_duesOf, tbI 727 (by decide +kernel), imL_duesOf, seL_duesOf⟩
theorem lkD_44 : FL "OwedToWinds$Days" 44 9 4 := ⟨RX9, TX9, 18, rfl, by decide, by decide, tbI 48 (by decide +kernel)⟩
theorem lkD_47 : VL "OwedToWinds$Days" 47 nW_isHere 1 := ⟨mlW_isHere, tbI 675 (by decide +kernel), imW_isHere, seW_isHere⟩
theorem lkD_41 : FL "OwedToWinds$Days" 41 9 0 := ⟨RX9, TX9, 18, rfl, by decide, by decide, tbI 40 (by decide +kernel)⟩
theorem lkD_90 : VL "OwedToWinds$Days" 90 nW_weightOf 1 := ⟨mlW_weightOf, tbI 795 (by decide +kernel), imW_weightOf, seW_weightOf⟩
theorem lkD_87 : VL "OwedToWinds$Days" 87 nD_drawX 0 := ⟨mlD_drawX, tbI 791 (by decide +kernel), imD_drawX, seD_drawX⟩
theorem lkD_84 : VL "OwedToWinds$Days" 84 nW_weightOfAll 0 := ⟨mlW_weightOfAll, tbI 782 (by decide +kernel), imW_weightOfAll, seW_weightOfAll⟩
theorem lkD_100 : VL "OwedToWinds$Days" 100 nD_payNow 3 := ⟨mlD_payNow, tbI 690 (by decide +kernel), imD_payNow, seD_payNow⟩
theorem lkD_97 : VL "OwedToWinds$Days" 97 nW_keepStep 0 := ⟨mlW_keepStep, tbI 679 (by decide +kernel), imW_keepStep, seW_keepStep⟩
theorem lkD_93 : VL "OwedToWinds$Days" 93 nD_canPay 3 := ⟨mlD_canPay, tbI 670 (by decide +kernel), imD_canPay, seD_canPay⟩
theorem lkD_103 : VL "OwedToWinds$Days" 103 nW_isVillage 1 := ⟨mlW_isVillage, tbI 674 (by decide +kernel), imW_isVillage, seW_isVillage⟩
theorem lkD_110 : VL "OwedToWinds$Days" 110 nD_mergeNow 2 := ⟨mlD_mergeNow, tbI 706 (by decide +kernel), imD_mergeNow, seD_mergeNow⟩
theorem lkD_106 : VL "OwedToWinds$Days" 106 nD_canMerge 2 := ⟨mlD_canMerge, tbI 702 (by decide +kernel), imD_canMerge, seD_canMerge⟩
theorem lkD_124 : VL "OwedToWinds$Days" 124 nD_pass 0 := ⟨mlD_pass, tbI 834 (by decide +kernel), imD_pass, seD_pass⟩
theorem lkD_121 : VL "OwedToWinds$Days" 121 nW_daysLeft 0 := ⟨mlW_daysLeft, tbI 833 (by decide +kernel), imW_daysLeft, seW_daysLeft⟩
theorem lkD_118 : VL "OwedToWinds$Days" 118 nD_mergeByChance 1 := ⟨mlD_mergeByChance, tbI 847 (by decide +kernel), imD_mergeByChance, seD_mergeByChance⟩
theorem lkD_114 : VL "OwedToWinds$Days" 114 nD_payByChance 1 := ⟨mlD_payByChance, tbI 843 (by decide +kernel), imD_payByChance, seD_payByChance⟩
theorem lkD_135 : VL "OwedToWinds$Days" 135 nD_perform 4 := ⟨mlD_perform, tbI 824 (by decide +kernel), imD_perform, seD_perform⟩
theorem lkD_132 : FL "OwedToWinds$Days" 132 7 4 := ⟨RX7, TX7, 6, rfl, by decide, by decide, tbI 228 (by decide +kernel)⟩
theorem lkD_127 : FL "OwedToWinds$Days" 127 7 5 := ⟨RX7, TX7, 6, rfl, by decide, by decide, tbI 231 (by decide +kernel)⟩
theorem lkD_151 : VL "OwedToWinds$Days" 151 nD_mergeByHand 2 := ⟨mlD_mergeByHand, tbI 832 (by decide +kernel), imD_mergeByHand, seD_mergeByHand⟩
theorem lkD_148 : VL "OwedToWinds$Days" 148 nD_payByHand 3 := ⟨mlD_payByHand, tbI 831 (by decide +kernel), imD_payByHand, seD_payByHand⟩
theorem lkD_145 : VL "OwedToWinds$Days" 145 nW_tellWay 3 := ⟨mlW_tellWay, tbI 830 (by decide +kernel), imW_tellWay, seW_tellWay⟩
theorem lkD_142 : VL "OwedToWinds$Days" 142 nW_tellVillage 2 := ⟨mlW_tellVillage, tbI 829 (by decide +kernel), imW_tellVillage, seW_tellVillage⟩
theorem lkD_139 : VL "OwedToWinds$Days" 139 nW_tellWind 3 := ⟨mlW_tellWind, tbI 828 (by decide +kernel), imW_tellWind, seW_tellWind⟩
theorem lkF_3 : Cond.methodLink "OwedToWinds$Foresight" 3 Lib.objectInit ∈ gtb := tbI 290 (by decide +kernel)
theorem lkF_11 : FL "OwedToWinds$Foresight" 11 2 2 := ⟨RX2, TX2, 10, rfl, by decide, by decide, tbI 293 (by decide +kernel)⟩
theorem lkF_17 : FL "OwedToWinds$Foresight" 17 2 3 := ⟨RX2, TX2, 10, rfl, by decide, by decide, tbI 294 (by decide +kernel)⟩
theorem lkF_21 : FL "OwedToWinds$Foresight" 21 2 4 := ⟨RX2, TX2, 10, rfl, by decide, by decide, tbI 296 (by decide +kernel)⟩
theorem lkF_24 : FL "OwedToWinds$Foresight" 24 2 5 := ⟨RX2, TX2, 10, rfl, by decide, by decide, tbI 298 (by decide +kernel)⟩
theorem lkF_27 : FL "OwedToWinds$Foresight" 27 2 6 := ⟨RX2, TX2, 10, rfl, by decide, by decide, tbI 300 (by decide +kernel)⟩
theorem lkF_30 : FL "OwedToWinds$Foresight" 30 2 7 := ⟨RX2, TX2, 10, rfl, by decide, by decide, tbI 302 (by decide +kernel)⟩
theorem lkF_33 : FL "OwedToWinds$Foresight" 33 2 8 := ⟨RX2, TX2, 10, rfl, by decide, by decide, tbI 303 (by decide +kernel)⟩
theorem lkF_36 : FL "OwedToWinds$Foresight" 36 2 9 := ⟨RX2, TX2, 10, rfl, by decide, by decide, tbI 304 (by decide +kernel)⟩
theorem lkF_39 : FL "OwedToWinds$Foresight" 39 2 0 := ⟨RX2, TX2, 10, rfl, by decide, by decide, tbI 291 (by decide +kernel)⟩
theorem lkF_43 : FL "OwedToWinds$Foresight" 43 2 1 := ⟨RX2, TX2, 10, rfl, by decide, by decide, tbI 292 (by decide +kernel)⟩
theorem lkF_47 : FL "OwedToWinds$Foresight" 47 9 0 := ⟨RX9, TX9, 18, rfl, by decide, by decide, tbI 38 (by decide +kernel)⟩
theorem lkF_50 : SLn "OwedToWinds$Foresight" 50 nW_copyRow 2 := ⟨mlW_copyRow, ⟨"OwedToWinds", tbI 919 (by decide +kernel)⟩, stW_copyRow⟩
theorem lkF_58 : SL "OwedToWinds$Foresight" 58 nJ_min 2 := ⟨mlJ_min, tbI 930 (by decide +kernel), stJ_min⟩
theorem lkF_54 : VL "OwedToWinds$Foresight" 54 nW_daysLeft 0 := ⟨mlW_daysLeft, tbI 929 (by decide +kernel), imW_daysLeft, seW_daysLeft⟩
theorem lkF_73 : FL "OwedToWinds$Foresight" 73 1 4 := ⟨RX1, TX1, 5, rfl, by decide, by decide, tbI 272 (by decide +kernel)⟩
theorem lkF_68 : VL "OwedToWinds$Foresight" 68 nD_pass 0 := ⟨mlD_pass, tbI 931 (by decide +kernel), imD_pass, seD_pass⟩
theorem lkF_64 : VL "OwedToWinds$Foresight" 64 nF_canPass 1 := ⟨mlF_canPass, tbI 925 (by decide +kernel), imF_canPass, seF_canPass⟩
theorem lkF_83 : VL "OwedToWinds$Foresight" 83 nF_giveBack 0 := ⟨mlF_giveBack, tbI 932 (by decide +kernel), imF_giveBack, seF_giveBack⟩
theorem lkF_79 : Cond.constant "OwedToWinds$Foresight" 79 1000000 ∈ gtb := tbI 920 (by decide +kernel)
theorem lkF_80 : VL "OwedToWinds$Foresight" 80 nF_takenUpTo 2 := ⟨mlF_takenUpTo, tbI 921 (by decide +kernel), imF_takenUpTo, seF_takenUpTo⟩
theorem lkF_76 : VL "OwedToWinds$Foresight" 76 nF_keepNow 0 := ⟨mlF_keepNow, tbI 915 (by decide +kernel), imF_keepNow, seF_keepNow⟩
theorem lkF_90 : VL "OwedToWinds$Foresight" 90 nF_isAnyOwed 0 := ⟨mlF_isAnyOwed, tbI 960 (by decide +kernel), imF_isAnyOwed, seF_isAnyOwed⟩
theorem lkF_86 : VL "OwedToWinds$Foresight" 86 nD_wasCalm 0 := ⟨mlD_wasCalm, tbI 956 (by decide +kernel), imD_wasCalm, seD_wasCalm⟩
theorem lkF_93 : FL "OwedToWinds$Foresight" 93 9 4 := ⟨RX9, TX9, 18, rfl, by decide, by decide, tbI 50 (by decide +kernel)⟩
theorem lkF_96 : VL "OwedToWinds$Foresight" 96 nF_isOwed 1 := ⟨mlF_isOwed, tbI 964 (by decide +kernel), imF_isOwed, seF_isOwed⟩
theorem lkF_100 : VL "OwedToWinds$Foresight" 100 nW_isHere 1 := ⟨mlW_isHere, tbI 968 (by decide +kernel), imW_isHere, seW_isHere⟩
theorem lkF_103 : FL "OwedToWinds$Foresight" 103 9 10 := ⟨RX9, TX9, 18, rfl, by decide, by decide, tbI 71 (by decide +kernel)⟩
theorem lkF_106 : FL "OwedToWinds$Foresight" 106 9 9 := ⟨RX9, TX9, 18, rfl, by decide, by decide, tbI 67 (by decide +kernel)⟩
theorem lkF_112 : VL "OwedToWinds$Foresight" 112 nF_payOff 1 := ⟨mlF_payOff, tbI 1012 (by decide +kernel), imF_payOff, seF_payOff⟩
theorem lkF_109 : VL "OwedToWinds$Foresight" 109 nF_penceFor 1 := ⟨mlF_penceFor, tbI 1008 (by decide +kernel), imF_penceFor, seF_penceFor⟩
theorem lkF_116 : SL "OwedToWinds$Foresight" 116 nJ_max 2 := ⟨mlJ_max, tbI 1180 (by decide +kernel), stJ_max⟩
theorem lkF_122 : FL "OwedToWinds$Foresight" 122 9 6 := ⟨RX9, TX9, 18, rfl, by decide, by decide, tbI 59 (by decide +kernel)⟩
theorem lkF_125 : VL "OwedToWinds$Foresight" 125 nF_arrival 2 := ⟨mlF_arrival, tbI 1058 (by decide +kernel), imF_arrival, seF_arrival⟩
theorem lkF_119 : VL "OwedToWinds$Foresight" 119 nF_foreseeSpeeds 0 := ⟨mlF_foreseeSpeeds, tbI 1050 (by decide +kernel), imF_foreseeSpeeds, seF_foreseeSpeeds⟩
theorem lkF_128 : VL "OwedToWinds$Foresight" 128 nD_speed 0 := ⟨mlD_speed, tbI 1054 (by decide +kernel), imD_speed, seD_speed⟩
theorem lkF_131 : VL "OwedToWinds$Foresight" 131 nW_lengthOf 2 := ⟨mlW_lengthOf, tbI 1062 (by decide +kernel), imW_lengthOf, seW_lengthOf⟩
theorem lkQ_3 : Cond.methodLink "OwedToWinds$Fraction" 3 Lib.objectInit ∈ gtb := tbI 194 (by decide +kernel)
theorem lkQ_9 : FL "OwedToWinds$Fraction" 9 3 0 := ⟨RX3, TX3, 2, rfl, by decide, by decide, tbI 195 (by decide +kernel)⟩
theorem lkQ_15 : FL "OwedToWinds$Fraction" 15 3 1 := ⟨RX3, TX3, 2, rfl, by decide, by decide, tbI 197 (by decide +kernel)⟩
theorem lkQ_28 : VL "OwedToWinds$Fraction" 28 nQ_set 2 := ⟨mlQ_set, tbI 996 (by decide +kernel), imQ_set, seQ_set⟩
theorem lkQ_24 : VL "OwedToWinds$Fraction" 24 nW_weightOf 1 := ⟨mlW_weightOf, tbI 995 (by decide +kernel), imW_weightOf, seW_weightOf⟩
theorem lkQ_18 : VL "OwedToWinds$Fraction" 18 nW_weightOfAll 0 := ⟨mlW_weightOfAll, tbI 994 (by decide +kernel), imW_weightOfAll, seW_weightOfAll⟩
theorem lkQ_37 : Cond.fieldLink "OwedToWinds$Fraction" 37 "OwedToWinds$Fraction" "ORDERS" "[I" ∈ gtb := tbI 1036 (by decide +kernel)
theorem lkQ_45 : SL "OwedToWinds$Fraction" 45 nJ_max 2 := ⟨mlJ_max, tbI 1041 (by decide +kernel), stJ_max⟩
theorem lkQ_41 : SL "OwedToWinds$Fraction" 41 nQ_mostOf 2 := ⟨mlQ_mostOf, tbI 1038 (by decide +kernel), stQ_mostOf⟩
theorem lkQ_32 : SL "OwedToWinds$Fraction" 32 nJ_bitCount 1 := ⟨mlJ_bitCount, tbI 1035 (by decide +kernel), stJ_bitCount⟩
theorem lkL_3 : Cond.methodLink "OwedToWinds$Laws" 3 Lib.objectInit ∈ gtb := tbI 250 (by decide +kernel)
theorem lkL_9 : FL "OwedToWinds$Laws" 9 4 2 := ⟨RX4, TX4, 3, rfl, by decide, by decide, tbI 253 (by decide +kernel)⟩
theorem lkL_15 : FL "OwedToWinds$Laws" 15 4 0 := ⟨RX4, TX4, 3, rfl, by decide, by decide, tbI 251 (by decide +kernel)⟩
theorem lkL_19 : FL "OwedToWinds$Laws" 19 4 1 := ⟨RX4, TX4, 3, rfl, by decide, by decide, tbI 252 (by decide +kernel)⟩
theorem lkL_29 : FL "OwedToWinds$Laws" 29 9 0 := ⟨RX9, TX9, 18, rfl, by decide, by decide, tbI 39 (by decide +kernel)⟩
theorem lkL_34 : VL "OwedToWinds$Laws" 34 nL_reckoned 5 := ⟨mlL_reckoned, tbI 737 (by decide +kernel), imL_reckoned, seL_reckoned⟩
theorem lkL_25 : VL "OwedToWinds$Laws" 25 nL_rulingOn 1 := ⟨mlL_rulingOn, tbI 731 (by decide +kernel), imL_rulingOn, seL_rulingOn⟩
theorem lkL_38 : SL "OwedToWinds$Laws" 38 nL_within 2 := ⟨mlL_within, tbI 773 (by decide +kernel), stL_within⟩
theorem lkL_42 : FL "OwedToWinds$Laws" 42 9 7 := ⟨RX9, TX9, 18, rfl, by decide, by decide, tbI 62 (by decide +kernel)⟩
theorem lkL_45 : FL "OwedToWinds$Laws" 45 9 10 := ⟨RX9, TX9, 18, rfl, by decide, by decide, tbI 69 (by decide +kernel)⟩
theorem lkL_53 : VL "OwedToWinds$Laws" 53 nT_hasLaw 1 := ⟨mlT_hasLaw, tbI 736 (by decide +kernel), imT_hasLaw, seT_hasLaw⟩
theorem lkL_49 : VL "OwedToWinds$Laws" 49 nW_isText 1 := ⟨mlW_isText, tbI 735 (by decide +kernel), imW_isText, seW_isText⟩
theorem lkL_61 : SL "OwedToWinds$Laws" 61 nJ_max 2 := ⟨mlJ_max, tbI 777 (by decide +kernel), stJ_max⟩
theorem lkL_56 : SL "OwedToWinds$Laws" 56 nJ_min 2 := ⟨mlJ_min, tbI 776 (by decide +kernel), stJ_min⟩
theorem lkL_98 : SL "OwedToWinds$Laws" 98 nJ_maxL 2 := ⟨mlJ_maxL, tbI 770 (by decide +kernel), stJ_maxL⟩
theorem lkL_91 : Cond.constantLong "OwedToWinds$Laws" 91 (-1000000) ∈ gtb := tbI 765 (by decide +kernel)
theorem lkL_93 : Cond.constantLong "OwedToWinds$Laws" 93 1000000 ∈ gtb := tbI 766 (by decide +kernel)
theorem lkL_95 : SL "OwedToWinds$Laws" 95 nJ_minL 2 := ⟨mlJ_minL, tbI 767 (by decide +kernel), stJ_minL⟩
theorem lkL_87 : SL "OwedToWinds$Laws" 87 nL_ofTwo 3 := ⟨mlL_ofTwo, tbI 762 (by decide +kernel), stL_ofTwo⟩
theorem lkL_84 : SL "OwedToWinds$Laws" 84 nL_nearest 2 := ⟨mlL_nearest, tbI 756 (by decide +kernel), stL_nearest⟩
theorem lkL_80 : SL "OwedToWinds$Laws" 80 nJ_abs 1 := ⟨mlJ_abs, tbI 753 (by decide +kernel), stJ_abs⟩
theorem lkL_77 : VL "OwedToWinds$Laws" 77 nL_ofOne 2 := ⟨mlL_ofOne, tbI 745 (by decide +kernel), imL_ofOne, seL_ofOne⟩
theorem lkL_73 : VL "OwedToWinds$Laws" 73 nL_named 4 := ⟨mlL_named, tbI 741 (by decide +kernel), imL_named, seL_named⟩
theorem lkL_70 : FL "OwedToWinds$Laws" 70 7 0 := ⟨RX7, TX7, 6, rfl, by decide, by decide, tbI 221 (by decide +kernel)⟩
theorem lkL_67 : FL "OwedToWinds$Laws" 67 7 3 := ⟨RX7, TX7, 6, rfl, by decide, by decide, tbI 226 (by decide +kernel)⟩
theorem lkL_64 : FL "OwedToWinds$Laws" 64 7 2 := ⟨RX7, TX7, 6, rfl, by decide, by decide, tbI 224 (by decide +kernel)⟩
theorem lkL_100 : FL "OwedToWinds$Laws" 100 9 5 := ⟨RX9, TX9, 18, rfl, by decide, by decide, tbI 54 (by decide +kernel)⟩
theorem lkL_103 : VL "OwedToWinds$Laws" 103 nW_isWind 1 := ⟨mlW_isWind, tbI 749 (by decide +kernel), imW_isWind, seW_isWind⟩
theorem lkL_106 : SL "OwedToWinds$Laws" 106 nJ_floorDiv 2 := ⟨mlJ_floorDiv, tbI 759 (by decide +kernel), stJ_floorDiv⟩
theorem lkR_3 : Cond.methodLink "OwedToWinds$Reader" 3 Lib.objectInit ∈ gtb := tbI 136 (by decide +kernel)
theorem lkR_9 : FL "OwedToWinds$Reader" 9 5 1 := ⟨RX5, TX5, 15, rfl, by decide, by decide, tbI 142 (by decide +kernel)⟩
theorem lkR_15 : FL "OwedToWinds$Reader" 15 5 2 := ⟨RX5, TX5, 15, rfl, by decide, by decide, tbI 143 (by decide +kernel)⟩
theorem lkR_18 : FL "OwedToWinds$Reader" 18 5 3 := ⟨RX5, TX5, 15, rfl, by decide, by decide, tbI 144 (by decide +kernel)⟩
theorem lkR_21 : Cond.fieldLink "OwedToWinds$Reader" 21 "OwedToWinds$Word" (wordNm.getD 40 "") "LOwedToWinds$Word;" ∈ gtb := tbI 137 (by decide +kernel)
theorem lkR_27 : FL "OwedToWinds$Reader" 27 5 4 := ⟨RX5, TX5, 15, rfl, by decide, by decide, tbI 145 (by decide +kernel)⟩
theorem lkR_30 : FL "OwedToWinds$Reader" 30 5 5 := ⟨RX5, TX5, 15, rfl, by decide, by decide, tbI 146 (by decide +kernel)⟩
theorem lkR_33 : FL "OwedToWinds$Reader" 33 5 6 := ⟨RX5, TX5, 15, rfl, by decide, by decide, tbI 147 (by decide +kernel)⟩
theorem lkR_37 : FL "OwedToWinds$Reader" 37 5 7 := ⟨RX5, TX5, 15, rfl, by decide, by decide, tbI 148 (by decide +kernel)⟩
theorem lkR_40 : FL "OwedToWinds$Reader" 40 5 8 := ⟨RX5, TX5, 15, rfl, by decide, by decide, tbI 149 (by decide +kernel)⟩
theorem lkR_44 : FL "OwedToWinds$Reader" 44 5 9 := ⟨RX5, TX5, 15, rfl, by decide, by decide, tbI 150 (by decide +kernel)⟩
theorem lkR_22 : Cond.classLink "OwedToWinds$Reader" 22 "OwedToWinds$Word" ∈ gtb := tbI 139 (by decide +kernel)
theorem lkR_47 : FL "OwedToWinds$Reader" 47 5 10 := ⟨RX5, TX5, 15, rfl, by decide, by decide, tbI 151 (by decide +kernel)⟩
theorem lkR_51 : FL "OwedToWinds$Reader" 51 5 11 := ⟨RX5, TX5, 15, rfl, by decide, by decide, tbI 152 (by decide +kernel)⟩
theorem lkR_54 : FL "OwedToWinds$Reader" 54 5 12 := ⟨RX5, TX5, 15, rfl, by decide, by decide, tbI 153 (by decide +kernel)⟩
theorem lkR_57 : FL "OwedToWinds$Reader" 57 5 13 := ⟨RX5, TX5, 15, rfl, by decide, by decide, tbI 154 (by decide +kernel)⟩
theorem lkR_60 : FL "OwedToWinds$Reader" 60 5 14 := ⟨RX5, TX5, 15, rfl, by decide, by decide, tbI 156 (by decide +kernel)⟩
theorem lkR_63 : FL "OwedToWinds$Reader" 63 5 0 := ⟨RX5, TX5, 15, rfl, by decide, by decide, tbI 141 (by decide +kernel)⟩
theorem lkR_91 : VL "OwedToWinds$Reader" 91 nR_readDeed 1 := ⟨mlR_readDeed, tbI 630 (by decide +kernel), imR_readDeed, seR_readDeed⟩
theorem lkR_88 : VL "OwedToWinds$Reader" 88 nR_readLaw 1 := ⟨mlR_readLaw, tbI 540 (by decide +kernel), imR_readLaw, seR_readLaw⟩
theorem lkR_81 : Cond.fieldLink "OwedToWinds$Reader" 81 "OwedToWinds$Word" ((["clause", "code", "level"] : List String).getD 0 "") "I" ∈ gtb := tbI 1946 (by decide +kernel)
theorem lkR_84 : VL "OwedToWinds$Reader" 84 nR_blameClause 1 := ⟨mlR_blameClause, tbI 528 (by decide +kernel), imR_blameClause, seR_blameClause⟩
theorem lkR_78 : VL "OwedToWinds$Reader" 78 nR_advance 0 := ⟨mlR_advance, tbI 452 (by decide +kernel), imR_advance, seR_advance⟩
theorem lkR_73 : VL "OwedToWinds$Reader" 73 nT_clear 0 := ⟨mlT_clear, tbI 448 (by decide +kernel), imT_clear, seT_clear⟩
theorem lkR_67 : SL "OwedToWinds$Reader" 67 nJ_min 2 := ⟨mlJ_min, tbI 445 (by decide +kernel), stJ_min⟩
theorem lkR_101 : FL "OwedToWinds$Reader" 101 7 5 := ⟨RX7, TX7, 6, rfl, by decide, by decide, tbI 230 (by decide +kernel)⟩
theorem lkR_94 : VL "OwedToWinds$Reader" 94 nR_blame 1 := ⟨mlR_blame, tbI 532 (by decide +kernel), imR_blame, seR_blame⟩
theorem lkR_97 : VL "OwedToWinds$Reader" 97 nT_hasLaw 1 := ⟨mlT_hasLaw, tbI 536 (by decide +kernel), imT_hasLaw, seT_hasLaw⟩
theorem lkR_129 : VL "OwedToWinds$Reader" 129 nT_addClause 4 := ⟨mlT_addClause, tbI 626 (by decide +kernel), imT_addClause, seT_addClause⟩
theorem lkR_126 : Cond.fieldLink "OwedToWinds$Reader" 126 "OwedToWinds$Word" (wordNm.getD 38 "") "LOwedToWinds$Word;" ∈ gtb := tbI 620 (by decide +kernel)
theorem lkR_110 : VL "OwedToWinds$Reader" 110 nR_expect 1 := ⟨mlR_expect, tbI 640 (by decide +kernel), imR_expect, seR_expect⟩
theorem lkR_104 : VL "OwedToWinds$Reader" 104 nR_expectNumber 2 := ⟨mlR_expectNumber, tbI 634 (by decide +kernel), imR_expectNumber, seR_expectNumber⟩
theorem lkR_123 : Cond.fieldLink "OwedToWinds$Reader" 123 "OwedToWinds$Word" (wordNm.getD 18 "") "LOwedToWinds$Word;" ∈ gtb := tbI 648 (by decide +kernel)
theorem lkR_120 : Cond.fieldLink "OwedToWinds$Reader" 120 "OwedToWinds$Word" (wordNm.getD 19 "") "LOwedToWinds$Word;" ∈ gtb := tbI 568 (by decide +kernel)
theorem lkR_117 : Cond.fieldLink "OwedToWinds$Reader" 117 "OwedToWinds$Word" (wordNm.getD 17 "") "LOwedToWinds$Word;" ∈ gtb := tbI 646 (by decide +kernel)
theorem lkR_114 : Cond.fieldLink "OwedToWinds$Reader" 114 "OwedToWinds$Word" (wordNm.getD 13 "") "LOwedToWinds$Word;" ∈ gtb := tbI 644 (by decide +kernel)
theorem lkR_107 : Cond.fieldLink "OwedToWinds$Reader" 107 "OwedToWinds$Word" (wordNm.getD 14 "") "LOwedToWinds$Word;" ∈ gtb := tbI 638 (by decide +kernel)
theorem lkR_133 : Cond.fieldLink "OwedToWinds$Reader" 133 "OwedToWinds$Word" (wordNm.getD 39 "") "LOwedToWinds$Word;" ∈ gtb := tbI 526 (by decide +kernel)
theorem lkR_145 : VL "OwedToWinds$Reader" 145 nT_endLaw 1 := ⟨mlT_endLaw, tbI 622 (by decide +kernel), imT_endLaw, seT_endLaw⟩
theorem lkR_142 : VL "OwedToWinds$Reader" 142 nR_readBehindOne 0 := ⟨mlR_readBehindOne, tbI 602 (by decide +kernel), imR_readBehindOne, seR_readBehindOne⟩
theorem lkR_139 : VL "OwedToWinds$Reader" 139 nR_readOne 0 := ⟨mlR_readOne, tbI 548 (by decide +kernel), imR_readOne, seR_readOne⟩
theorem lkR_136 : VL "OwedToWinds$Reader" 136 nT_beginLaw 1 := ⟨mlT_beginLaw, tbI 544 (by decide +kernel), imT_beginLaw, seT_beginLaw⟩
theorem lkR_152 : Cond.fieldLink "OwedToWinds$Reader" 152 "OwedToWinds$Word" (wordNm.getD 22 "") "LOwedToWinds$Word;" ∈ gtb := tbI 592 (by decide +kernel)
theorem lkR_155 : Cond.fieldLink "OwedToWinds$Reader" 155 "OwedToWinds$Word" (wordNm.getD 21 "") "LOwedToWinds$Word;" ∈ gtb := tbI 598 (by decide +kernel)
theorem lkR_158 : Cond.fieldLink "OwedToWinds$Reader" 158 "OwedToWinds$Word" (wordNm.getD 20 "") "LOwedToWinds$Word;" ∈ gtb := tbI 600 (by decide +kernel)
theorem lkR_148 : VL "OwedToWinds$Reader" 148 nR_top 0 := ⟨mlR_top, tbI 560 (by decide +kernel), imR_top, seR_top⟩
theorem lkR_186 : VL "OwedToWinds$Reader" 186 nR_openOne 1 := ⟨mlR_openOne, tbI 582 (by decide +kernel), imR_openOne, seR_openOne⟩
theorem lkR_195 : VL "OwedToWinds$Reader" 195 nR_isAtAsk 0 := ⟨mlR_isAtAsk, tbI 594 (by decide +kernel), imR_isAtAsk, seR_isAtAsk⟩
theorem lkR_189 : Cond.fieldLink "OwedToWinds$Reader" 189 "OwedToWinds$Word" (wordNm.getD 30 "") "LOwedToWinds$Word;" ∈ gtb := tbI 590 (by decide +kernel)
theorem lkR_192 : Cond.fieldLink "OwedToWinds$Reader" 192 "OwedToWinds$Word" (wordNm.getD 35 "") "LOwedToWinds$Word;" ∈ gtb := tbI 564 (by decide +kernel)
theorem lkR_177 : Cond.fieldLink "OwedToWinds$Reader" 177 "OwedToWinds$Word" (wordNm.getD 36 "") "LOwedToWinds$Word;" ∈ gtb := tbI 578 (by decide +kernel)
theorem lkR_180 : Cond.fieldLink "OwedToWinds$Reader" 180 "OwedToWinds$Word" (wordNm.getD 33 "") "LOwedToWinds$Word;" ∈ gtb := tbI 566 (by decide +kernel)
theorem lkR_183 : Cond.fieldLink "OwedToWinds$Reader" 183 "OwedToWinds$Word" (wordNm.getD 34 "") "LOwedToWinds$Word;" ∈ gtb := tbI 580 (by decide +kernel)
theorem lkR_164 : VL "OwedToWinds$Reader" 164 nR_closeOne 0 := ⟨mlR_closeOne, tbI 556 (by decide +kernel), imR_closeOne, seR_closeOne⟩
theorem lkR_174 : Cond.fieldLink "OwedToWinds$Reader" 174 "OwedToWinds$Word" ((["clause", "code", "level"] : List String).getD 1 "") "I" ∈ gtb := tbI 1947 (by decide +kernel)
theorem lkR_161 : VL "OwedToWinds$Reader" 161 nT_put 1 := ⟨mlT_put, tbI 552 (by decide +kernel), imT_put, seT_put⟩
theorem lkR_171 : VL "OwedToWinds$Reader" 171 nK_isNameOf 1 := ⟨mlK_isNameOf, tbI 574 (by decide +kernel), imK_isNameOf, seK_isNameOf⟩
theorem lkR_167 : VL "OwedToWinds$Reader" 167 nK_isName 0 := ⟨mlK_isName, tbI 570 (by decide +kernel), imK_isName, seK_isName⟩
theorem lkR_198 : VL "OwedToWinds$Reader" 198 nR_push 1 := ⟨mlR_push, tbI 586 (by decide +kernel), imR_push, seR_push⟩
theorem lkR_207 : VL "OwedToWinds$Reader" 207 nR_readBehindSum 0 := ⟨mlR_readBehindSum, tbI 610 (by decide +kernel), imR_readBehindSum, seR_readBehindSum⟩
theorem lkR_204 : VL "OwedToWinds$Reader" 204 nR_putDownTo 1 := ⟨mlR_putDownTo, tbI 606 (by decide +kernel), imR_putDownTo, seR_putDownTo⟩
theorem lkR_201 : Cond.fieldLink "OwedToWinds$Reader" 201 "OwedToWinds$Word" ((["clause", "code", "level"] : List String).getD 2 "") "I" ∈ gtb := tbI 1949 (by decide +kernel)
theorem lkR_213 : VL "OwedToWinds$Reader" 213 nK_compares 0 := ⟨mlK_compares, tbI 616 (by decide +kernel), imK_compares, seK_compares⟩
theorem lkR_210 : Cond.fieldLink "OwedToWinds$Reader" 210 "OwedToWinds$Word" (wordNm.getD 37 "") "LOwedToWinds$Word;" ∈ gtb := tbI 614 (by decide +kernel)
theorem lkR_219 : VL "OwedToWinds$Reader" 219 nR_spelled 0 := ⟨mlR_spelled, tbI 459 (by decide +kernel), imR_spelled, seR_spelled⟩
theorem lkR_225 : VL "OwedToWinds$Reader" 225 nR_readNumber 0 := ⟨mlR_readNumber, tbI 522 (by decide +kernel), imR_readNumber, seR_readNumber⟩
theorem lkR_222 : SL "OwedToWinds$Reader" 222 nR_isDigit 1 := ⟨mlR_isDigit, tbI 519 (by decide +kernel), stR_isDigit⟩
theorem lkR_216 : SL "OwedToWinds$Reader" 216 nR_isLetter 1 := ⟨mlR_isLetter, tbI 456 (by decide +kernel), stR_isLetter⟩
theorem lkR_239 : Cond.fieldLink "OwedToWinds$Reader" 239 "OwedToWinds$Word" (wordNm.getD 41 "") "LOwedToWinds$Word;" ∈ gtb := tbI 517 (by decide +kernel)
theorem lkR_228 : Cond.fieldLinkNest "OwedToWinds$Reader" 228 "OwedToWinds$Word" "ALL" "[LOwedToWinds$Word;" "OwedToWinds" ∈ gtb := tbI 463 (by decide +kernel)
theorem lkR_231 : Cond.fieldLink "OwedToWinds$Reader" 231 "OwedToWinds$Word" "spelling" "Ljava/lang/String;" ∈ gtb := tbI 1943 (by decide +kernel)
theorem lkR_235 : VL "OwedToWinds$Reader" 235 nR_isSpelled 1 := ⟨mlR_isSpelled, tbI 465 (by decide +kernel), imR_isSpelled, seR_isSpelled⟩
theorem lkR_247 : VL "OwedToWinds$Reader" 247 nS_charAt 1 := ⟨mlS_charAt, tbI 479 (by decide +kernel), imS_charAt, seS_charAt⟩
theorem lkR_242 : VL "OwedToWinds$Reader" 242 nS_length 0 := ⟨mlS_length, tbI 469 (by decide +kernel), imS_length, seS_length⟩
theorem lkZ_3 : Cond.methodLink "OwedToWinds$Riddles" 3 Lib.objectInit ∈ gtb := tbI 332 (by decide +kernel)
theorem lkZ_9 : FL "OwedToWinds$Riddles" 9 6 2 := ⟨RX6, TX6, 6, rfl, by decide, by decide, tbI 335 (by decide +kernel)⟩
theorem lkZ_15 : FL "OwedToWinds$Riddles" 15 6 3 := ⟨RX6, TX6, 6, rfl, by decide, by decide, tbI 337 (by decide +kernel)⟩
theorem lkZ_18 : FL "OwedToWinds$Riddles" 18 6 4 := ⟨RX6, TX6, 6, rfl, by decide, by decide, tbI 338 (by decide +kernel)⟩
theorem lkZ_22 : FL "OwedToWinds$Riddles" 22 6 5 := ⟨RX6, TX6, 6, rfl, by decide, by decide, tbI 339 (by decide +kernel)⟩
theorem lkZ_25 : FL "OwedToWinds$Riddles" 25 6 0 := ⟨RX6, TX6, 6, rfl, by decide, by decide, tbI 333 (by decide +kernel)⟩
theorem lkZ_29 : FL "OwedToWinds$Riddles" 29 6 1 := ⟨RX6, TX6, 6, rfl, by decide, by decide, tbI 334 (by decide +kernel)⟩
theorem lkZ_33 : FL "OwedToWinds$Riddles" 33 9 6 := ⟨RX9, TX9, 18, rfl, by decide, by decide, tbI 57 (by decide +kernel)⟩
theorem lkZ_39 : VL "OwedToWinds$Riddles" 39 nL_takesOf 3 := ⟨mlL_takesOf, tbI 1030 (by decide +kernel), imL_takesOf, seL_takesOf⟩
theorem lkZ_45 : VL "OwedToWinds$Riddles" 45 nZ_fits 2 := ⟨mlZ_fits, tbI 1090 (by decide +kernel), imZ_fits, seZ_fits⟩
theorem lkZ_55 : FL "OwedToWinds$Riddles" 55 9 13 := ⟨RX9, TX9, 18, rfl, by decide, by decide, tbI 79 (by decide +kernel)⟩
theorem lkZ_49 : FL "OwedToWinds$Riddles" 49 9 11 := ⟨RX9, TX9, 18, rfl, by decide, by decide, tbI 73 (by decide +kernel)⟩
theorem lkZ_52 : FL "OwedToWinds$Riddles" 52 9 12 := ⟨RX9, TX9, 18, rfl, by decide, by decide, tbI 76 (by decide +kernel)⟩
theorem lkZ_58 : FL "OwedToWinds$Riddles" 58 9 4 := ⟨RX9, TX9, 18, rfl, by decide, by decide, tbI 49 (by decide +kernel)⟩
theorem lkZ_61 : VL "OwedToWinds$Riddles" 61 nZ_fittingForces 1 := ⟨mlZ_fittingForces, tbI 1086 (by decide +kernel), imZ_fittingForces, seZ_fittingForces⟩
theorem lkZ_69 : VL "OwedToWinds$Riddles" 69 nZ_unlikeAnswers 1 := ⟨mlZ_unlikeAnswers, tbI 1111 (by decide +kernel), imZ_unlikeAnswers, seZ_unlikeAnswers⟩
theorem lkZ_65 : VL "OwedToWinds$Riddles" 65 nZ_isTookOf 1 := ⟨mlZ_isTookOf, tbI 1107 (by decide +kernel), imZ_isTookOf, seZ_isTookOf⟩
theorem lkZ_78 : FL "OwedToWinds$Riddles" 78 9 15 := ⟨RX9, TX9, 18, rfl, by decide, by decide, tbI 85 (by decide +kernel)⟩
theorem lkZ_81 : VL "OwedToWinds$Riddles" 81 nL_blowsOf 1 := ⟨mlL_blowsOf, tbI 1127 (by decide +kernel), imL_blowsOf, seL_blowsOf⟩
theorem lkZ_75 : FL "OwedToWinds$Riddles" 75 9 14 := ⟨RX9, TX9, 18, rfl, by decide, by decide, tbI 82 (by decide +kernel)⟩
theorem lkZ_72 : FL "OwedToWinds$Riddles" 72 9 0 := ⟨RX9, TX9, 18, rfl, by decide, by decide, tbI 41 (by decide +kernel)⟩
theorem lkZ_84 : SL "OwedToWinds$Riddles" 84 nZ_payment 2 := ⟨mlZ_payment, tbI 1140 (by decide +kernel), stZ_payment⟩
theorem lkZ_92 : VL "OwedToWinds$Riddles" 92 nZ_isSo 1 := ⟨mlZ_isSo, tbI 1136 (by decide +kernel), imZ_isSo, seZ_isSo⟩
theorem lkZ_88 : VL "OwedToWinds$Riddles" 88 nZ_rows 0 := ⟨mlZ_rows, tbI 1132 (by decide +kernel), imZ_rows, seZ_rows⟩
theorem lkZ_100 : SL "OwedToWinds$Riddles" 100 nJ_numberOfTrailingZeros 1 := ⟨mlJ_numberOfTrailingZeros, tbI 1152 (by decide +kernel), stJ_numberOfTrailingZeros⟩
theorem lkZ_95 : SL "OwedToWinds$Riddles" 95 nJ_bitCount 1 := ⟨mlJ_bitCount, tbI 1151 (by decide +kernel), stJ_bitCount⟩
theorem lkT_3 : Cond.methodLink "OwedToWinds$Text" 3 Lib.objectInit ∈ gtb := tbI 219 (by decide +kernel)
theorem lkT_9 : FL "OwedToWinds$Text" 9 7 0 := ⟨RX7, TX7, 6, rfl, by decide, by decide, tbI 220 (by decide +kernel)⟩
theorem lkT_15 : FL "OwedToWinds$Text" 15 7 1 := ⟨RX7, TX7, 6, rfl, by decide, by decide, tbI 222 (by decide +kernel)⟩
theorem lkT_19 : FL "OwedToWinds$Text" 19 7 2 := ⟨RX7, TX7, 6, rfl, by decide, by decide, tbI 223 (by decide +kernel)⟩
theorem lkT_22 : FL "OwedToWinds$Text" 22 7 3 := ⟨RX7, TX7, 6, rfl, by decide, by decide, tbI 225 (by decide +kernel)⟩
theorem lkT_25 : FL "OwedToWinds$Text" 25 7 4 := ⟨RX7, TX7, 6, rfl, by decide, by decide, tbI 227 (by decide +kernel)⟩
theorem lkT_28 : FL "OwedToWinds$Text" 28 7 5 := ⟨RX7, TX7, 6, rfl, by decide, by decide, tbI 229 (by decide +kernel)⟩
theorem lkK_159 : Cond.fieldLink "OwedToWinds$Word" 159 "OwedToWinds$Word" ((["clause", "code", "level"] : List String).getD 1 "") "I" ∈ gtb := tbI 1948 (by decide +kernel)
theorem lkK_162 : Cond.fieldLink "OwedToWinds$Word" 162 "OwedToWinds$Word" ((["clause", "code", "level"] : List String).getD 2 "") "I" ∈ gtb := tbI 1950 (by decide +kernel)
theorem lkW_5 : Cond.methodLink "OwedToWinds$World" 5 Lib.objectInit ∈ gtb := tbI 34 (by decide +kernel)
theorem lkW_11 : FL "OwedToWinds$World" 11 9 0 := ⟨RX9, TX9, 18, rfl, by decide, by decide, tbI 37 (by decide +kernel)⟩
theorem lkW_15 : Cond.classLink "OwedToWinds$World" 15 "[[I" ∈ gtb := tbI 35 (by decide +kernel)
theorem lkW_17 : FL "OwedToWinds$World" 17 9 1 := ⟨RX9, TX9, 18, rfl, by decide, by decide, tbI 43 (by decide +kernel)⟩
theorem lkW_20 : FL "OwedToWinds$World" 20 9 2 := ⟨RX9, TX9, 18, rfl, by decide, by decide, tbI 44 (by decide +kernel)⟩
theorem lkW_24 : FL "OwedToWinds$World" 24 9 3 := ⟨RX9, TX9, 18, rfl, by decide, by decide, tbI 45 (by decide +kernel)⟩
theorem lkW_27 : FL "OwedToWinds$World" 27 9 4 := ⟨RX9, TX9, 18, rfl, by decide, by decide, tbI 47 (by decide +kernel)⟩
theorem lkW_30 : FL "OwedToWinds$World" 30 9 5 := ⟨RX9, TX9, 18, rfl, by decide, by decide, tbI 52 (by decide +kernel)⟩
theorem lkW_33 : FL "OwedToWinds$World" 33 9 6 := ⟨RX9, TX9, 18, rfl, by decide, by decide, tbI 56 (by decide +kernel)⟩
theorem lkW_36 : FL "OwedToWinds$World" 36 9 7 := ⟨RX9, TX9, 18, rfl, by decide, by decide, tbI 61 (by decide +kernel)⟩
theorem lkW_39 : FL "OwedToWinds$World" 39 9 8 := ⟨RX9, TX9, 18, rfl, by decide, by decide, tbI 64 (by decide +kernel)⟩
theorem lkW_42 : FL "OwedToWinds$World" 42 9 9 := ⟨RX9, TX9, 18, rfl, by decide, by decide, tbI 65 (by decide +kernel)⟩
theorem lkW_45 : FL "OwedToWinds$World" 45 9 10 := ⟨RX9, TX9, 18, rfl, by decide, by decide, tbI 68 (by decide +kernel)⟩
theorem lkW_48 : FL "OwedToWinds$World" 48 9 11 := ⟨RX9, TX9, 18, rfl, by decide, by decide, tbI 72 (by decide +kernel)⟩
theorem lkW_51 : FL "OwedToWinds$World" 51 9 12 := ⟨RX9, TX9, 18, rfl, by decide, by decide, tbI 75 (by decide +kernel)⟩
theorem lkW_54 : FL "OwedToWinds$World" 54 9 13 := ⟨RX9, TX9, 18, rfl, by decide, by decide, tbI 78 (by decide +kernel)⟩
theorem lkW_57 : FL "OwedToWinds$World" 57 9 14 := ⟨RX9, TX9, 18, rfl, by decide, by decide, tbI 81 (by decide +kernel)⟩
theorem lkW_60 : FL "OwedToWinds$World" 60 9 15 := ⟨RX9, TX9, 18, rfl, by decide, by decide, tbI 84 (by decide +kernel)⟩
theorem lkW_63 : FL "OwedToWinds$World" 63 9 16 := ⟨RX9, TX9, 18, rfl, by decide, by decide, tbI 87 (by decide +kernel)⟩
theorem lkW_66 : FL "OwedToWinds$World" 66 9 17 := ⟨RX9, TX9, 18, rfl, by decide, by decide, tbI 89 (by decide +kernel)⟩
theorem lkW_69 : SL "OwedToWinds$World" 69 nW_copyRow 2 := ⟨mlW_copyRow, tbI 683 (by decide +kernel), stW_copyRow⟩
theorem lkW_79 : Cond.methodLink "OwedToWinds$World" 79 arraycopyName ∈ gtb := tbI 687 (by decide +kernel)
theorem lkW_73 : SL "OwedToWinds$World" 73 nJ_min 2 := ⟨mlJ_min, tbI 686 (by decide +kernel), stJ_min⟩
theorem lkW_85 : VL "OwedToWinds$World" 85 nW_isHere 1 := ⟨mlW_isHere, tbI 790 (by decide +kernel), imW_isHere, seW_isHere⟩
theorem lkW_89 : VL "OwedToWinds$World" 89 nW_weightOf 1 := ⟨mlW_weightOf, tbI 786 (by decide +kernel), imW_weightOf, seW_weightOf⟩
theorem lkW_93 : SL "OwedToWinds$World" 93 nW_setWind 4 := ⟨mlW_setWind, tbI 399 (by decide +kernel), stW_setWind⟩
theorem lkW_97 : SL "OwedToWinds$World" 97 nW_setVillage 3 := ⟨mlW_setVillage, tbI 410 (by decide +kernel), stW_setVillage⟩
theorem lkW_101 : VL "OwedToWinds$World" 101 nW_isVillage 1 := ⟨mlW_isVillage, tbI 421 (by decide +kernel), imW_isVillage, seW_isVillage⟩
theorem lkW_109 : Cond.constant "OwedToWinds$World" 109 1000000 ∈ gtb := tbI 903 (by decide +kernel)
theorem lkW_108 : Cond.constant "OwedToWinds$World" 108 100000 ∈ gtb := tbI 902 (by decide +kernel)
theorem lkW_104 : VL "OwedToWinds$World" 104 nW_pages 0 := ⟨mlW_pages, tbI 901 (by decide +kernel), imW_pages, seW_pages⟩
theorem lkY_211 : VL "OwedToWindsLaw" 211 nM_about 1 := ⟨mlM_about, tbI 1939 (by decide +kernel), imM_about, seM_about⟩
theorem lkY_208 : VL "OwedToWindsLaw" 208 nX_about 1 := ⟨mlX_about, tbI 1210 (by decide +kernel), imX_about, seX_about⟩
theorem lkY_207 : VL "OwedToWindsLaw" 207 nM_back 0 := ⟨mlM_back, tbI 1935 (by decide +kernel), imM_back, seM_back⟩
theorem lkY_204 : VL "OwedToWindsLaw" 204 nX_back 0 := ⟨mlX_back, tbI 1206 (by decide +kernel), imX_back, seX_back⟩
theorem lkY_203 : VL "OwedToWindsLaw" 203 nM_image 0 := ⟨mlM_image, tbI 1931 (by decide +kernel), imM_image, seM_image⟩
theorem lkY_200 : VL "OwedToWindsLaw" 200 nX_image 0 := ⟨mlX_image, tbI 1198 (by decide +kernel), imX_image, seX_image⟩
theorem lkY_199 : VL "OwedToWindsLaw" 199 nM_worstDay 0 := ⟨mlM_worstDay, tbI 1745 (by decide +kernel), imM_worstDay, seM_worstDay⟩
theorem lkY_196 : VL "OwedToWindsLaw" 196 nX_worstDay 0 := ⟨mlX_worstDay, tbI 1194 (by decide +kernel), imX_worstDay, seX_worstDay⟩
theorem lkY_195 : VL "OwedToWindsLaw" 195 nM_often 1 := ⟨mlM_often, tbI 1741 (by decide +kernel), imM_often, seM_often⟩
theorem lkY_192 : VL "OwedToWindsLaw" 192 nX_often 1 := ⟨mlX_often, tbI 1190 (by decide +kernel), imX_often, seX_often⟩
theorem lkY_191 : VL "OwedToWindsLaw" 191 nM_richest 0 := ⟨mlM_richest, tbI 1753 (by decide +kernel), imM_richest, seM_richest⟩
theorem lkY_188 : VL "OwedToWindsLaw" 188 nX_richest 0 := ⟨mlX_richest, tbI 1186 (by decide +kernel), imX_richest, seX_richest⟩
theorem lkY_187 : VL "OwedToWindsLaw" 187 nM_strongest 0 := ⟨mlM_strongest, tbI 1749 (by decide +kernel), imM_strongest, seM_strongest⟩
theorem lkY_184 : VL "OwedToWindsLaw" 184 nX_strongest 0 := ⟨mlX_strongest, tbI 1181 (by decide +kernel), imX_strongest, seX_strongest⟩
theorem lkY_183 : VL "OwedToWindsLaw" 183 nM_calms 2 := ⟨mlM_calms, tbI 1806 (by decide +kernel), imM_calms, seM_calms⟩
theorem lkY_179 : VL "OwedToWindsLaw" 179 nX_calms 2 := ⟨mlX_calms, tbI 1172 (by decide +kernel), imX_calms, seX_calms⟩
theorem lkY_178 : VL "OwedToWindsLaw" 178 nM_inKind 2 := ⟨mlM_inKind, tbI 1923 (by decide +kernel), imM_inKind, seM_inKind⟩
theorem lkY_175 : VL "OwedToWindsLaw" 175 nX_inKind 2 := ⟨mlX_inKind, tbI 1160 (by decide +kernel), imX_inKind, seX_inKind⟩
theorem lkY_174 : VL "OwedToWindsLaw" 174 nM_kind 1 := ⟨mlM_kind, tbI 1919 (by decide +kernel), imM_kind, seM_kind⟩
theorem lkY_171 : VL "OwedToWindsLaw" 171 nX_kind 1 := ⟨mlX_kind, tbI 1156 (by decide +kernel), imX_kind, seX_kind⟩
theorem lkY_170 : VL "OwedToWindsLaw" 170 nM_sure 3 := ⟨mlM_sure, tbI 1915 (by decide +kernel), imM_sure, seM_sure⟩
theorem lkY_167 : VL "OwedToWindsLaw" 167 nX_sure 3 := ⟨mlX_sure, tbI 1143 (by decide +kernel), imX_sure, seX_sure⟩
theorem lkY_166 : VL "OwedToWindsLaw" 166 nM_sails 2 := ⟨mlM_sails, tbI 1900 (by decide +kernel), imM_sails, seM_sails⟩
theorem lkY_163 : VL "OwedToWindsLaw" 163 nX_sails 2 := ⟨mlX_sails, tbI 1119 (by decide +kernel), imX_sails, seX_sails⟩
theorem lkY_162 : VL "OwedToWindsLaw" 162 nM_sail 1 := ⟨mlM_sail, tbI 1896 (by decide +kernel), imM_sail, seM_sail⟩
theorem lkY_159 : VL "OwedToWindsLaw" 159 nX_sail 1 := ⟨mlX_sail, tbI 1115 (by decide +kernel), imX_sail, seX_sail⟩
theorem lkY_158 : VL "OwedToWindsLaw" 158 nM_vane 0 := ⟨mlM_vane, tbI 1884 (by decide +kernel), imM_vane, seM_vane⟩
theorem lkY_155 : VL "OwedToWindsLaw" 155 nX_vane 0 := ⟨mlX_vane, tbI 1099 (by decide +kernel), imX_vane, seX_vane⟩
theorem lkY_154 : VL "OwedToWindsLaw" 154 nM_strengths 1 := ⟨mlM_strengths, tbI 1880 (by decide +kernel), imM_strengths, seM_strengths⟩
theorem lkY_151 : VL "OwedToWindsLaw" 151 nX_strengths 1 := ⟨mlX_strengths, tbI 1094 (by decide +kernel), imX_strengths, seX_strengths⟩
theorem lkY_150 : VL "OwedToWindsLaw" 150 nM_whoseWind 0 := ⟨mlM_whoseWind, tbI 1868 (by decide +kernel), imM_whoseWind, seM_whoseWind⟩
theorem lkY_147 : VL "OwedToWindsLaw" 147 nX_whoseWind 0 := ⟨mlX_whoseWind, tbI 1078 (by decide +kernel), imX_whoseWind, seX_whoseWind⟩
theorem lkY_146 : VL "OwedToWindsLaw" 146 nM_took 2 := ⟨mlM_took, tbI 1864 (by decide +kernel), imM_took, seM_took⟩
theorem lkY_143 : VL "OwedToWindsLaw" 143 nX_took 2 := ⟨mlX_took, tbI 1074 (by decide +kernel), imX_took, seX_took⟩
theorem lkY_142 : VL "OwedToWindsLaw" 142 nM_voyage 3 := ⟨mlM_voyage, tbI 1848 (by decide +kernel), imM_voyage, seM_voyage⟩
theorem lkY_139 : VL "OwedToWindsLaw" 139 nX_voyage 3 := ⟨mlX_voyage, tbI 1042 (by decide +kernel), imX_voyage, seX_voyage⟩
theorem lkY_138 : VL "OwedToWindsLaw" 138 nM_share 5 := ⟨mlM_share, tbI 1833 (by decide +kernel), imM_share, seM_share⟩
theorem lkY_134 : VL "OwedToWindsLaw" 134 nX_share 5 := ⟨mlX_share, tbI 1016 (by decide +kernel), imX_share, seX_share⟩
theorem lkY_133 : VL "OwedToWindsLaw" 133 nM_least 3 := ⟨mlM_least, tbI 1821 (by decide +kernel), imM_least, seM_least⟩
theorem lkY_129 : VL "OwedToWindsLaw" 129 nX_least 3 := ⟨mlX_least, tbI 1000 (by decide +kernel), imX_least, seX_least⟩
theorem lkY_128 : VL "OwedToWindsLaw" 128 nM_odds 3 := ⟨mlM_odds, tbI 1810 (by decide +kernel), imM_odds, seM_odds⟩
theorem lkY_124 : VL "OwedToWindsLaw" 124 nX_odds 3 := ⟨mlX_odds, tbI 985 (by decide +kernel), imX_odds, seX_odds⟩
theorem lkY_123 : VL "OwedToWindsLaw" 123 nM_whose 1 := ⟨mlM_whose, tbI 1801 (by decide +kernel), imM_whose, seM_whose⟩
theorem lkY_120 : VL "OwedToWindsLaw" 120 nX_whose 1 := ⟨mlX_whose, tbI 977 (by decide +kernel), imX_whose, seX_whose⟩
theorem lkY_119 : VL "OwedToWindsLaw" 119 nM_broke 1 := ⟨mlM_broke, tbI 1797 (by decide +kernel), imM_broke, seM_broke⟩
theorem lkY_116 : VL "OwedToWindsLaw" 116 nX_broke 1 := ⟨mlX_broke, tbI 969 (by decide +kernel), imX_broke, seX_broke⟩
theorem lkY_115 : VL "OwedToWindsLaw" 115 nM_arrears 0 := ⟨mlM_arrears, tbI 1789 (by decide +kernel), imM_arrears, seM_arrears⟩
theorem lkY_112 : VL "OwedToWindsLaw" 112 nX_arrears 0 := ⟨mlX_arrears, tbI 948 (by decide +kernel), imX_arrears, seX_arrears⟩
theorem lkY_111 : VL "OwedToWindsLaw" 111 nM_owed 2 := ⟨mlM_owed, tbI 1785 (by decide +kernel), imM_owed, seM_owed⟩
theorem lkY_108 : VL "OwedToWindsLaw" 108 nX_owed 2 := ⟨mlX_owed, tbI 944 (by decide +kernel), imX_owed, seX_owed⟩
theorem lkY_107 : VL "OwedToWindsLaw" 107 nM_purse 2 := ⟨mlM_purse, tbI 1781 (by decide +kernel), imM_purse, seM_purse⟩
theorem lkY_104 : VL "OwedToWindsLaw" 104 nX_purse 2 := ⟨mlX_purse, tbI 936 (by decide +kernel), imX_purse, seX_purse⟩
theorem lkY_103 : VL "OwedToWindsLaw" 103 nM_foretold 1 := ⟨mlM_foretold, tbI 1757 (by decide +kernel), imM_foretold, seM_foretold⟩
theorem lkY_100 : VL "OwedToWindsLaw" 100 nX_foretold 1 := ⟨mlX_foretold, tbI 904 (by decide +kernel), imX_foretold, seX_foretold⟩
theorem lkY_99 : VL "OwedToWindsLaw" 99 nM_book 2 := ⟨mlM_book, tbI 1729 (by decide +kernel), imM_book, seM_book⟩
theorem lkY_96 : VL "OwedToWindsLaw" 96 nX_book 2 := ⟨mlX_book, tbI 889 (by decide +kernel), imX_book, seX_book⟩
theorem lkY_95 : VL "OwedToWindsLaw" 95 nM_is 1 := ⟨mlM_is, tbI 1725 (by decide +kernel), imM_is, seM_is⟩
theorem lkY_92 : VL "OwedToWindsLaw" 92 nX_is 1 := ⟨mlX_is, tbI 885 (by decide +kernel), imX_is, seX_is⟩
theorem lkY_91 : VL "OwedToWindsLaw" 91 nM_catches 3 := ⟨mlM_catches, tbI 1721 (by decide +kernel), imM_catches, seM_catches⟩
theorem lkY_88 : VL "OwedToWindsLaw" 88 nX_catches 3 := ⟨mlX_catches, tbI 881 (by decide +kernel), imX_catches, seX_catches⟩
theorem lkY_87 : VL "OwedToWindsLaw" 87 nM_takes 3 := ⟨mlM_takes, tbI 1717 (by decide +kernel), imM_takes, seM_takes⟩
theorem lkY_84 : VL "OwedToWindsLaw" 84 nX_takes 3 := ⟨mlX_takes, tbI 873 (by decide +kernel), imX_takes, seX_takes⟩
theorem lkY_83 : VL "OwedToWindsLaw" 83 nM_ofVillage 2 := ⟨mlM_ofVillage, tbI 1713 (by decide +kernel), imM_ofVillage, seM_ofVillage⟩
theorem lkY_80 : VL "OwedToWindsLaw" 80 nX_ofVillage 2 := ⟨mlX_ofVillage, tbI 867 (by decide +kernel), imX_ofVillage, seX_ofVillage⟩
theorem lkY_79 : VL "OwedToWindsLaw" 79 nM_ofWind 2 := ⟨mlM_ofWind, tbI 1709 (by decide +kernel), imM_ofWind, seM_ofWind⟩
theorem lkY_76 : VL "OwedToWindsLaw" 76 nX_ofWind 2 := ⟨mlX_ofWind, tbI 859 (by decide +kernel), imX_ofWind, seX_ofWind⟩
theorem lkY_75 : VL "OwedToWindsLaw" 75 nM_undo 0 := ⟨mlM_undo, tbI 1538 (by decide +kernel), imM_undo, seM_undo⟩
theorem lkY_72 : VL "OwedToWindsLaw" 72 nX_undo 0 := ⟨mlX_undo, tbI 851 (by decide +kernel), imX_undo, seX_undo⟩
theorem lkY_71 : VL "OwedToWindsLaw" 71 nM_years 2 := ⟨mlM_years, tbI 1701 (by decide +kernel), imM_years, seM_years⟩
theorem lkY_68 : VL "OwedToWindsLaw" 68 nX_years 2 := ⟨mlX_years, tbI 835 (by decide +kernel), imX_years, seX_years⟩
theorem lkY_67 : VL "OwedToWindsLaw" 67 nM_played 1 := ⟨mlM_played, tbI 1688 (by decide +kernel), imM_played, seM_played⟩
theorem lkY_64 : VL "OwedToWindsLaw" 64 nX_played 1 := ⟨mlX_played, tbI 816 (by decide +kernel), imX_played, seX_played⟩
theorem lkY_63 : VL "OwedToWindsLaw" 63 nM_day 1 := ⟨mlM_day, tbI 1581 (by decide +kernel), imM_day, seM_day⟩
theorem lkY_60 : VL "OwedToWindsLaw" 60 nX_day 1 := ⟨mlX_day, tbI 714 (by decide +kernel), imX_day, seX_day⟩
theorem lkY_59 : VL "OwedToWindsLaw" 59 nM_merge 2 := ⟨mlM_merge, tbI 1570 (by decide +kernel), imM_merge, seM_merge⟩
theorem lkY_56 : VL "OwedToWindsLaw" 56 nX_merge 2 := ⟨mlX_merge, tbI 694 (by decide +kernel), imX_merge, seX_merge⟩
theorem lkY_55 : VL "OwedToWindsLaw" 55 nM_pay 3 := ⟨mlM_pay, tbI 1546 (by decide +kernel), imM_pay, seM_pay⟩
theorem lkY_52 : VL "OwedToWindsLaw" 52 nX_pay 3 := ⟨mlX_pay, tbI 662 (by decide +kernel), imX_pay, seX_pay⟩
theorem lkY_51 : VL "OwedToWindsLaw" 51 nM_by 1 := ⟨mlM_by, tbI 1534 (by decide +kernel), imM_by, seM_by⟩
theorem lkY_47 : VL "OwedToWindsLaw" 47 nX_by 1 := ⟨mlX_by, tbI 654 (by decide +kernel), imX_by, seX_by⟩
theorem lkY_46 : VL "OwedToWindsLaw" 46 nM_fault 1 := ⟨mlM_fault, tbI 1530 (by decide +kernel), imM_fault, seM_fault⟩
theorem lkY_43 : VL "OwedToWindsLaw" 43 nX_fault 1 := ⟨mlX_fault, tbI 650 (by decide +kernel), imX_fault, seX_fault⟩
theorem lkY_42 : VL "OwedToWindsLaw" 42 nM_text 0 := ⟨mlM_text, tbI 1386 (by decide +kernel), imM_text, seM_text⟩
theorem lkY_38 : VL "OwedToWindsLaw" 38 nX_text 0 := ⟨mlX_text, tbI 437 (by decide +kernel), imX_text, seX_text⟩
theorem lkY_37 : VL "OwedToWindsLaw" 37 nM_end 1 := ⟨mlM_end, tbI 1382 (by decide +kernel), imM_end, seM_end⟩
theorem lkY_33 : VL "OwedToWindsLaw" 33 nX_end 1 := ⟨mlX_end, tbI 433 (by decide +kernel), imX_end, seX_end⟩
theorem lkY_32 : VL "OwedToWindsLaw" 32 nM_feed 5 := ⟨mlM_feed, tbI 1374 (by decide +kernel), imM_feed, seM_feed⟩
theorem lkY_28 : VL "OwedToWindsLaw" 28 nX_feed 5 := ⟨mlX_feed, tbI 425 (by decide +kernel), imX_feed, seX_feed⟩
theorem lkY_27 : VL "OwedToWindsLaw" 27 nM_way 3 := ⟨mlM_way, tbI 1366 (by decide +kernel), imM_way, seM_way⟩
theorem lkY_23 : VL "OwedToWindsLaw" 23 nX_way 3 := ⟨mlX_way, tbI 413 (by decide +kernel), imX_way, seX_way⟩
theorem lkY_22 : VL "OwedToWindsLaw" 22 nM_village 2 := ⟨mlM_village, tbI 1358 (by decide +kernel), imM_village, seM_village⟩
theorem lkY_18 : VL "OwedToWindsLaw" 18 nX_village 2 := ⟨mlX_village, tbI 402 (by decide +kernel), imX_village, seX_village⟩
theorem lkY_17 : VL "OwedToWindsLaw" 17 nM_wind 3 := ⟨mlM_wind, tbI 1339 (by decide +kernel), imM_wind, seM_wind⟩
theorem lkY_13 : VL "OwedToWindsLaw" 13 nX_wind 3 := ⟨mlX_wind, tbI 391 (by decide +kernel), imX_wind, seX_wind⟩
theorem lkY_10 : NL "OwedToWindsLaw" 10 11 := ⟨RX11, TX11, 38, rfl, by decide, tbI 1214 (by decide +kernel)⟩
theorem lkY_12 : IL "OwedToWindsLaw" 12 nM_init 0 := ⟨mlM_init, by decide +kernel, by decide +kernel, tbI 1216 (by decide +kernel), imM_init⟩
theorem lkY_7 : NL "OwedToWindsLaw" 7 10 := ⟨RX10, TX10, 12, rfl, by decide, tbI 21 (by decide +kernel)⟩
theorem lkY_9 : IL "OwedToWindsLaw" 9 nX_init 0 := ⟨mlX_init, by decide +kernel, by decide +kernel, tbI 23 (by decide +kernel), imX_init⟩
def decs (cc : ByteArray) (l : List (Nat × Instr × Nat)) : Bool := l.all (fun q => decide (decode cc q.1 = .ok (q.2.1, q.2.2)))
theorem dcg {cc : ByteArray} {l : List (Nat × Instr × Nat)} (h : decs cc l = true) (i : Nat) {pc n : Nat} {x : Instr} (hi : l[i]? = some (pc, x, n)) : decode cc pc = .ok (x, n) := of_decide_eq_true (List.all_eq_true.mp h _ (List.mem_of_getElem? hi))
theorem LEc {J : Nat → Ct} {b r : Ct} {pc h : Nat} (h1 : LE b (J h)) (h2 : LE r (J pc)) : LE (cond (Nat.beq pc h) b r) (J pc) := by
  cases hb : Nat.beq pc h with
  | true => rw [Nat.eq_of_beq_eq_true hb]; exact h1
  | false => exact h2
