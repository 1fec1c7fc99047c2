def J (z : Int) : Int32 := Int32.ofInt z
theorem inw0 : ∀ w ∈ u_ws RX0 TX0 6, w ∈ lw_w := by decide +kernel
theorem inw1 : ∀ w ∈ u_ws RX1 TX1 5, w ∈ lw_w := by decide +kernel
theorem inw2 : ∀ w ∈ u_ws RX2 TX2 9, w ∈ lw_w := by decide +kernel
theorem inw3 : ∀ w ∈ u_ws RX3 TX3 8, w ∈ lw_w := by decide +kernel
theorem inw4 : ∀ w ∈ u_ws RX4 TX4 4, w ∈ lw_w := by decide +kernel
theorem inw5 : ∀ w ∈ u_ws RX5 TX5 17, w ∈ lw_w := by decide +kernel
theorem flX4_12 : FL RX4 12 4 0 := ⟨RX4, TX4, 4, rfl, inw4, by decide, lw_in (i := 159) (by decide +kernel) rfl⟩
theorem flX4_21 : FL RX4 21 4 1 := ⟨RX4, TX4, 4, rfl, inw4, by decide, lw_in (i := 160) (by decide +kernel) rfl⟩
theorem flX4_30 : FL RX4 30 4 2 := ⟨RX4, TX4, 4, rfl, inw4, by decide, lw_in (i := 161) (by decide +kernel) rfl⟩
theorem flX4_37 : FL RX4 37 4 3 := ⟨RX4, TX4, 4, rfl, inw4, by decide, lw_in (i := 162) (by decide +kernel) rfl⟩
theorem flX0_9 : FL RX0 9 0 1 := ⟨RX0, TX0, 6, rfl, inw0, by decide, lw_in (i := 141) (by decide +kernel) rfl⟩
theorem flX0_15 : FL RX0 15 0 2 := ⟨RX0, TX0, 6, rfl, inw0, by decide, lw_in (i := 142) (by decide +kernel) rfl⟩
theorem flX0_18 : FL RX0 18 0 3 := ⟨RX0, TX0, 6, rfl, inw0, by decide, lw_in (i := 143) (by decide +kernel) rfl⟩
theorem fwX0_18 : FW RX0 18 0 3 := ⟨RX0, TX0, 6, tyX0, rfl, inw0, by decide, lw_in (i := 143) (by decide +kernel) rfl, tyX0_ok, nmX0, rfl, by decide +kernel⟩
theorem flX0_22 : FL RX0 22 0 4 := ⟨RX0, TX0, 6, rfl, inw0, by decide, lw_in (i := 144) (by decide +kernel) rfl⟩
theorem fwX0_22 : FW RX0 22 0 4 := ⟨RX0, TX0, 6, tyX0, rfl, inw0, by decide, lw_in (i := 144) (by decide +kernel) rfl, tyX0_ok, nmX0, rfl, by decide +kernel⟩
theorem flX0_25 : FL RX0 25 0 5 := ⟨RX0, TX0, 6, rfl, inw0, by decide, lw_in (i := 145) (by decide +kernel) rfl⟩
theorem fwX0_25 : FW RX0 25 0 5 := ⟨RX0, TX0, 6, tyX0, rfl, inw0, by decide, lw_in (i := 145) (by decide +kernel) rfl, tyX0_ok, nmX0, rfl, by decide +kernel⟩
theorem flX0_28 : FL RX0 28 0 0 := ⟨RX0, TX0, 6, rfl, inw0, by decide, lw_in (i := 140) (by decide +kernel) rfl⟩
theorem flX1_9 : FL RX1 9 1 2 := ⟨RX1, TX1, 5, rfl, inw1, by decide, lw_in (i := 120) (by decide +kernel) rfl⟩
theorem flX1_15 : FL RX1 15 1 3 := ⟨RX1, TX1, 5, rfl, inw1, by decide, lw_in (i := 121) (by decide +kernel) rfl⟩
theorem fwX1_15 : FW RX1 15 1 3 := ⟨RX1, TX1, 5, tyX1, rfl, inw1, by decide, lw_in (i := 121) (by decide +kernel) rfl, tyX1_ok, nmX1, rfl, by decide +kernel⟩
theorem flX1_19 : FL RX1 19 1 4 := ⟨RX1, TX1, 5, rfl, inw1, by decide, lw_in (i := 122) (by decide +kernel) rfl⟩
theorem fwX1_19 : FW RX1 19 1 4 := ⟨RX1, TX1, 5, tyX1, rfl, inw1, by decide, lw_in (i := 122) (by decide +kernel) rfl, tyX1_ok, nmX1, rfl, by decide +kernel⟩
theorem flX1_22 : FL RX1 22 1 0 := ⟨RX1, TX1, 5, rfl, inw1, by decide, lw_in (i := 118) (by decide +kernel) rfl⟩
theorem flX1_26 : FL RX1 26 1 1 := ⟨RX1, TX1, 5, rfl, inw1, by decide, lw_in (i := 119) (by decide +kernel) rfl⟩
theorem flX2_9 : FL RX2 9 2 1 := ⟨RX2, TX2, 9, rfl, inw2, by decide, lw_in (i := 85) (by decide +kernel) rfl⟩
theorem flX2_15 : FL RX2 15 2 2 := ⟨RX2, TX2, 9, rfl, inw2, by decide, lw_in (i := 86) (by decide +kernel) rfl⟩
theorem flX2_18 : FL RX2 18 2 3 := ⟨RX2, TX2, 9, rfl, inw2, by decide, lw_in (i := 87) (by decide +kernel) rfl⟩
theorem flX2_21 : FL RX2 21 2 4 := ⟨RX2, TX2, 9, rfl, inw2, by decide, lw_in (i := 88) (by decide +kernel) rfl⟩
theorem flX2_24 : FL RX2 24 2 5 := ⟨RX2, TX2, 9, rfl, inw2, by decide, lw_in (i := 89) (by decide +kernel) rfl⟩
theorem flX2_27 : FL RX2 27 2 6 := ⟨RX2, TX2, 9, rfl, inw2, by decide, lw_in (i := 90) (by decide +kernel) rfl⟩
theorem fwX2_27 : FW RX2 27 2 6 := ⟨RX2, TX2, 9, tyX2, rfl, inw2, by decide, lw_in (i := 90) (by decide +kernel) rfl, tyX2_ok, nmX2, rfl, by decide +kernel⟩
theorem flX2_31 : FL RX2 31 2 7 := ⟨RX2, TX2, 9, rfl, inw2, by decide, lw_in (i := 91) (by decide +kernel) rfl⟩
theorem flX2_34 : FL RX2 34 2 8 := ⟨RX2, TX2, 9, rfl, inw2, by decide, lw_in (i := 92) (by decide +kernel) rfl⟩
theorem fwX2_34 : FW RX2 34 2 8 := ⟨RX2, TX2, 9, tyX2, rfl, inw2, by decide, lw_in (i := 92) (by decide +kernel) rfl, tyX2_ok, nmX2, rfl, by decide +kernel⟩
theorem flX2_37 : FL RX2 37 2 0 := ⟨RX2, TX2, 9, rfl, inw2, by decide, lw_in (i := 84) (by decide +kernel) rfl⟩
theorem flX3_9 : FL RX3 9 3 0 := ⟨RX3, TX3, 8, rfl, inw3, by decide, lw_in (i := 52) (by decide +kernel) rfl⟩
theorem flX3_15 : FL RX3 15 3 1 := ⟨RX3, TX3, 8, rfl, inw3, by decide, lw_in (i := 53) (by decide +kernel) rfl⟩
theorem flX3_18 : FL RX3 18 3 2 := ⟨RX3, TX3, 8, rfl, inw3, by decide, lw_in (i := 54) (by decide +kernel) rfl⟩
theorem flX3_21 : FL RX3 21 3 3 := ⟨RX3, TX3, 8, rfl, inw3, by decide, lw_in (i := 55) (by decide +kernel) rfl⟩
theorem flX3_24 : FL RX3 24 3 4 := ⟨RX3, TX3, 8, rfl, inw3, by decide, lw_in (i := 56) (by decide +kernel) rfl⟩
theorem fwX3_24 : FW RX3 24 3 4 := ⟨RX3, TX3, 8, tyX3, rfl, inw3, by decide, lw_in (i := 56) (by decide +kernel) rfl, tyX3_ok, nmX3, rfl, by decide +kernel⟩
theorem flX3_28 : FL RX3 28 3 5 := ⟨RX3, TX3, 8, rfl, inw3, by decide, lw_in (i := 57) (by decide +kernel) rfl⟩
theorem fwX3_28 : FW RX3 28 3 5 := ⟨RX3, TX3, 8, tyX3, rfl, inw3, by decide, lw_in (i := 57) (by decide +kernel) rfl, tyX3_ok, nmX3, rfl, by decide +kernel⟩
theorem flX3_31 : FL RX3 31 3 6 := ⟨RX3, TX3, 8, rfl, inw3, by decide, lw_in (i := 58) (by decide +kernel) rfl⟩
theorem fwX3_31 : FW RX3 31 3 6 := ⟨RX3, TX3, 8, tyX3, rfl, inw3, by decide, lw_in (i := 58) (by decide +kernel) rfl, tyX3_ok, nmX3, rfl, by decide +kernel⟩
theorem flX3_34 : FL RX3 34 3 7 := ⟨RX3, TX3, 8, rfl, inw3, by decide, lw_in (i := 59) (by decide +kernel) rfl⟩
theorem fwX3_34 : FW RX3 34 3 7 := ⟨RX3, TX3, 8, tyX3, rfl, inw3, by decide, lw_in (i := 59) (by decide +kernel) rfl, tyX3_ok, nmX3, rfl, by decide +kernel⟩
theorem flX5_7 : FL RX5 7 5 0 := ⟨RX5, TX5, 17, rfl, inw5, by decide, lw_in (i := 577) (by decide +kernel) rfl⟩
theorem fwX5_7 : FW RX5 7 5 0 := ⟨RX5, TX5, 17, tyX5, rfl, inw5, by decide, lw_in (i := 577) (by decide +kernel) rfl, tyX5_ok, nmX5, rfl, by decide +kernel⟩
theorem flX5_13 : FL RX5 13 5 1 := ⟨RX5, TX5, 17, rfl, inw5, by decide, lw_in (i := 578) (by decide +kernel) rfl⟩
theorem fwX5_13 : FW RX5 13 5 1 := ⟨RX5, TX5, 17, tyX5, rfl, inw5, by decide, lw_in (i := 578) (by decide +kernel) rfl, tyX5_ok, nmX5, rfl, by decide +kernel⟩
theorem flX5_16 : FL RX5 16 5 2 := ⟨RX5, TX5, 17, rfl, inw5, by decide, lw_in (i := 579) (by decide +kernel) rfl⟩
theorem flX5_20 : FL RX5 20 5 4 := ⟨RX5, TX5, 17, rfl, inw5, by decide, lw_in (i := 581) (by decide +kernel) rfl⟩
theorem flX5_23 : FL RX5 23 5 5 := ⟨RX5, TX5, 17, rfl, inw5, by decide, lw_in (i := 582) (by decide +kernel) rfl⟩
theorem flX5_26 : FL RX5 26 5 6 := ⟨RX5, TX5, 17, rfl, inw5, by decide, lw_in (i := 583) (by decide +kernel) rfl⟩
theorem flX5_29 : FL RX5 29 5 7 := ⟨RX5, TX5, 17, rfl, inw5, by decide, lw_in (i := 584) (by decide +kernel) rfl⟩
theorem flX5_33 : FL RX5 33 5 8 := ⟨RX5, TX5, 17, rfl, inw5, by decide, lw_in (i := 585) (by decide +kernel) rfl⟩
theorem flX5_36 : FL RX5 36 5 9 := ⟨RX5, TX5, 17, rfl, inw5, by decide, lw_in (i := 586) (by decide +kernel) rfl⟩
theorem flX5_39 : FL RX5 39 5 10 := ⟨RX5, TX5, 17, rfl, inw5, by decide, lw_in (i := 587) (by decide +kernel) rfl⟩
theorem fwX5_39 : FW RX5 39 5 10 := ⟨RX5, TX5, 17, tyX5, rfl, inw5, by decide, lw_in (i := 587) (by decide +kernel) rfl, tyX5_ok, nmX5, rfl, by decide +kernel⟩
theorem flX5_42 : FL RX5 42 5 11 := ⟨RX5, TX5, 17, rfl, inw5, by decide, lw_in (i := 588) (by decide +kernel) rfl⟩
theorem flX5_45 : FL RX5 45 5 12 := ⟨RX5, TX5, 17, rfl, inw5, by decide, lw_in (i := 589) (by decide +kernel) rfl⟩
theorem flX5_48 : FL RX5 48 5 13 := ⟨RX5, TX5, 17, rfl, inw5, by decide, lw_in (i := 590) (by decide +kernel) rfl⟩
theorem flX5_51 : FL RX5 51 5 14 := ⟨RX5, TX5, 17, rfl, inw5, by decide, lw_in (i := 591) (by decide +kernel) rfl⟩
theorem flX5_54 : FL RX5 54 5 15 := ⟨RX5, TX5, 17, rfl, inw5, by decide, lw_in (i := 592) (by decide +kernel) rfl⟩
theorem flX5_57 : FL RX5 57 5 16 := ⟨RX5, TX5, 17, rfl, inw5, by decide, lw_in (i := 593) (by decide +kernel) rfl⟩
theorem flX5_60 : FL RX5 60 5 3 := ⟨RX5, TX5, 17, rfl, inw5, by decide, lw_in (i := 580) (by decide +kernel) rfl⟩
theorem fwX5_60 : FW RX5 60 5 3 := ⟨RX5, TX5, 17, tyX5, rfl, inw5, by decide, lw_in (i := 580) (by decide +kernel) rfl, tyX5_ok, nmX5, rfl, by decide +kernel⟩
theorem kcX4_63 : Cond.constant RX4 63 (J 33554431) ∈ lw_w := lw_in (i := 223) (by decide +kernel) rfl
theorem kcX4_195 : Cond.constant RX4 195 (J 1082401) ∈ lw_w := lw_in (i := 227) (by decide +kernel) rfl
theorem kcX2_116 : Cond.constant RX2 116 (J 1048575) ∈ lw_w := lw_in (i := 296) (by decide +kernel) rfl
theorem kcX5_71 : Cond.constant RX5 71 (J 33554431) ∈ lw_w := lw_in (i := 649) (by decide +kernel) rfl
theorem kcX5_72 : Cond.constant RX5 72 (J 1082401) ∈ lw_w := lw_in (i := 650) (by decide +kernel) rfl
theorem kcJ6_265 : Cond.constant RJ6 265 (J 1431655765) ∈ lw_w := lw_in (i := 252) (by decide +kernel) rfl
theorem kcJ6_266 : Cond.constant RJ6 266 (J 858993459) ∈ lw_w := lw_in (i := 253) (by decide +kernel) rfl
theorem kcJ6_267 : Cond.constant RJ6 267 (J 252645135) ∈ lw_w := lw_in (i := 254) (by decide +kernel) rfl
theorem coX0_fits : CO mX0_fits 2 := ⟨by decide +kernel, by decide +kernel, by decide +kernel, by decide, lw_in (i := 501) (by decide +kernel) rfl, lw_in (i := 34) (by decide +kernel) rfl⟩
theorem coX0_fill : CO mX0_fill 3 := ⟨by decide +kernel, by decide +kernel, by decide +kernel, by decide, lw_in (i := 512) (by decide +kernel) rfl, lw_in (i := 34) (by decide +kernel) rfl⟩
theorem coX0_spotAt : CO mX0_spotAt 1 := ⟨by decide +kernel, by decide +kernel, by decide +kernel, by decide, lw_in (i := 538) (by decide +kernel) rfl, lw_in (i := 34) (by decide +kernel) rfl⟩
theorem coX0_findBest : CO mX0_findBest 2 := ⟨by decide +kernel, by decide +kernel, by decide +kernel, by decide, lw_in (i := 546) (by decide +kernel) rfl, lw_in (i := 34) (by decide +kernel) rfl⟩
theorem coX0_bestHeight : CO mX0_bestHeight 0 := ⟨by decide +kernel, by decide +kernel, by decide +kernel, by decide, lw_in (i := 553) (by decide +kernel) rfl, lw_in (i := 34) (by decide +kernel) rfl⟩
theorem coX0_bestOrder : CO mX0_bestOrder 0 := ⟨by decide +kernel, by decide +kernel, by decide +kernel, by decide, lw_in (i := 557) (by decide +kernel) rfl, lw_in (i := 34) (by decide +kernel) rfl⟩
theorem coX0_search : CO mX0_search 5 := ⟨by decide +kernel, by decide +kernel, by decide +kernel, by decide, lw_in (i := 549) (by decide +kernel) rfl, lw_in (i := 34) (by decide +kernel) rfl⟩
theorem coX0_empty : CO mX0_empty 1 := ⟨by decide +kernel, by decide +kernel, by decide +kernel, by decide, lw_in (i := 516) (by decide +kernel) rfl, lw_in (i := 34) (by decide +kernel) rfl⟩
theorem coX0_spotFor : CO mX0_spotFor 1 := ⟨by decide +kernel, by decide +kernel, by decide +kernel, by decide, lw_in (i := 521) (by decide +kernel) rfl, lw_in (i := 34) (by decide +kernel) rfl⟩
theorem coX0_isClear : CO mX0_isClear 3 := ⟨by decide +kernel, by decide +kernel, by decide +kernel, by decide, lw_in (i := 525) (by decide +kernel) rfl, lw_in (i := 34) (by decide +kernel) rfl⟩
theorem coX0_toggle : CO mX0_toggle 2 := ⟨by decide +kernel, by decide +kernel, by decide +kernel, by decide, lw_in (i := 530) (by decide +kernel) rfl, lw_in (i := 34) (by decide +kernel) rfl⟩
theorem coX1_clearOff : CO mX1_clearOff 1 := ⟨by decide +kernel, by decide +kernel, by decide +kernel, by decide, lw_in (i := 455) (by decide +kernel) rfl, lw_in (i := 33) (by decide +kernel) rfl⟩
theorem coX1_told : CO mX1_told 1 := ⟨by decide +kernel, by decide +kernel, by decide +kernel, by decide, lw_in (i := 470) (by decide +kernel) rfl, lw_in (i := 33) (by decide +kernel) rfl⟩
theorem coX1_lowestToGo : CO mX1_lowestToGo 1 := ⟨by decide +kernel, by decide +kernel, by decide +kernel, by decide, lw_in (i := 463) (by decide +kernel) rfl, lw_in (i := 33) (by decide +kernel) rfl⟩
theorem coX2_forgetSteps : CO mX2_forgetSteps 0 := ⟨by decide +kernel, by decide +kernel, by decide +kernel, by decide, lw_in (i := 183) (by decide +kernel) rfl, lw_in (i := 32) (by decide +kernel) rfl⟩
theorem coX2_stepAt : CO mX2_stepAt 1 := ⟨by decide +kernel, by decide +kernel, by decide +kernel, by decide, lw_in (i := 399) (by decide +kernel) rfl, lw_in (i := 32) (by decide +kernel) rfl⟩
theorem coX2_canStand : CO mX2_canStand 3 := ⟨by decide +kernel, by decide +kernel, by decide +kernel, by decide, lw_in (i := 325) (by decide +kernel) rfl, lw_in (i := 32) (by decide +kernel) rfl⟩
theorem coX2_isOutWhereItLies : CO mX2_isOutWhereItLies 1 := ⟨by decide +kernel, by decide +kernel, by decide +kernel, by decide, lw_in (i := 273) (by decide +kernel) rfl, lw_in (i := 32) (by decide +kernel) rfl⟩
theorem coX2_stepsOnward : CO mX2_stepsOnward 3 := ⟨by decide +kernel, by decide +kernel, by decide +kernel, by decide, lw_in (i := 352) (by decide +kernel) rfl, lw_in (i := 32) (by decide +kernel) rfl⟩
theorem coX2_stepsOut : CO mX2_stepsOut 2 := ⟨by decide +kernel, by decide +kernel, by decide +kernel, by decide, lw_in (i := 408) (by decide +kernel) rfl, lw_in (i := 32) (by decide +kernel) rfl⟩
theorem coX2_findWay : CO mX2_findWay 3 := ⟨by decide +kernel, by decide +kernel, by decide +kernel, by decide, lw_in (i := 371) (by decide +kernel) rfl, lw_in (i := 32) (by decide +kernel) rfl⟩
theorem coX2_countInside : CO mX2_countInside 1 := ⟨by decide +kernel, by decide +kernel, by decide +kernel, by decide, lw_in (i := 416) (by decide +kernel) rfl, lw_in (i := 32) (by decide +kernel) rfl⟩
theorem coX2_countRooms : CO mX2_countRooms 1 := ⟨by decide +kernel, by decide +kernel, by decide +kernel, by decide, lw_in (i := 430) (by decide +kernel) rfl, lw_in (i := 32) (by decide +kernel) rfl⟩
theorem coX2_keepSteps : CO mX2_keepSteps 2 := ⟨by decide +kernel, by decide +kernel, by decide +kernel, by decide, lw_in (i := 387) (by decide +kernel) rfl, lw_in (i := 32) (by decide +kernel) rfl⟩
theorem coX2_directionTo : CO mX2_directionTo 2 := ⟨by decide +kernel, by decide +kernel, by decide +kernel, by decide, lw_in (i := 391) (by decide +kernel) rfl, lw_in (i := 32) (by decide +kernel) rfl⟩
theorem coX2_survey : CO mX2_survey 2 := ⟨by decide +kernel, by decide +kernel, by decide +kernel, by decide, lw_in (i := 281) (by decide +kernel) rfl, lw_in (i := 32) (by decide +kernel) rfl⟩
theorem coX2_markClear : CO mX2_markClear 2 := ⟨by decide +kernel, by decide +kernel, by decide +kernel, by decide, lw_in (i := 291) (by decide +kernel) rfl, lw_in (i := 32) (by decide +kernel) rfl⟩
theorem coX2_hitPlaces : CO mX2_hitPlaces 2 := ⟨by decide +kernel, by decide +kernel, by decide +kernel, by decide, lw_in (i := 295) (by decide +kernel) rfl, lw_in (i := 32) (by decide +kernel) rfl⟩
theorem coX2_spreadFrom : CO mX2_spreadFrom 1 := ⟨by decide +kernel, by decide +kernel, by decide +kernel, by decide, lw_in (i := 383) (by decide +kernel) rfl, lw_in (i := 32) (by decide +kernel) rfl⟩
theorem coX2_reach : CO mX2_reach 2 := ⟨by decide +kernel, by decide +kernel, by decide +kernel, by decide, lw_in (i := 375) (by decide +kernel) rfl, lw_in (i := 32) (by decide +kernel) rfl⟩
theorem coX2_distanceOf : CO mX2_distanceOf 1 := ⟨by decide +kernel, by decide +kernel, by decide +kernel, by decide, lw_in (i := 379) (by decide +kernel) rfl, lw_in (i := 32) (by decide +kernel) rfl⟩
theorem coX2_isMarked : CO mX2_isMarked 2 := ⟨by decide +kernel, by decide +kernel, by decide +kernel, by decide, lw_in (i := 316) (by decide +kernel) rfl, lw_in (i := 32) (by decide +kernel) rfl⟩
theorem coX2_whereLies : CO mX2_whereLies 1 := ⟨by decide +kernel, by decide +kernel, by decide +kernel, by decide, lw_in (i := 305) (by decide +kernel) rfl, lw_in (i := 32) (by decide +kernel) rfl⟩
theorem coX2_placeAt : CO mX2_placeAt 2 := ⟨by decide +kernel, by decide +kernel, by decide +kernel, by decide, lw_in (i := 310) (by decide +kernel) rfl, lw_in (i := 32) (by decide +kernel) rfl⟩
theorem coX2_beside : CO mX2_beside 2 := ⟨by decide +kernel, by decide +kernel, by decide +kernel, by decide, lw_in (i := 355) (by decide +kernel) rfl, lw_in (i := 32) (by decide +kernel) rfl⟩
theorem coX3_renew : CO mX3_renew 2 := ⟨by decide +kernel, by decide +kernel, by decide +kernel, by decide, lw_in (i := 179) (by decide +kernel) rfl, lw_in (i := 31) (by decide +kernel) rfl⟩
theorem coX3_columnCount : CO mX3_columnCount 0 := ⟨by decide +kernel, by decide +kernel, by decide +kernel, by decide, lw_in (i := 420) (by decide +kernel) rfl, lw_in (i := 31) (by decide +kernel) rfl⟩
theorem coX3_rowCount : CO mX3_rowCount 0 := ⟨by decide +kernel, by decide +kernel, by decide +kernel, by decide, lw_in (i := 425) (by decide +kernel) rfl, lw_in (i := 31) (by decide +kernel) rfl⟩
theorem coX3_pieceCount : CO mX3_pieceCount 0 := ⟨by decide +kernel, by decide +kernel, by decide +kernel, by decide, lw_in (i := 505) (by decide +kernel) rfl, lw_in (i := 31) (by decide +kernel) rfl⟩
theorem coX3_lyingSet : CO mX3_lyingSet 0 := ⟨by decide +kernel, by decide +kernel, by decide +kernel, by decide, lw_in (i := 459) (by decide +kernel) rfl, lw_in (i := 31) (by decide +kernel) rfl⟩
theorem coX3_wallCount : CO mX3_wallCount 0 := ⟨by decide +kernel, by decide +kernel, by decide +kernel, by decide, lw_in (i := 569) (by decide +kernel) rfl, lw_in (i := 31) (by decide +kernel) rfl⟩
theorem coX3_hasRow : CO mX3_hasRow 1 := ⟨by decide +kernel, by decide +kernel, by decide +kernel, by decide, lw_in (i := 191) (by decide +kernel) rfl, lw_in (i := 31) (by decide +kernel) rfl⟩
theorem coX3_wholeRow : CO mX3_wholeRow 0 := ⟨by decide +kernel, by decide +kernel, by decide +kernel, by decide, lw_in (i := 195) (by decide +kernel) rfl, lw_in (i := 31) (by decide +kernel) rfl⟩
theorem coX3_setWalls : CO mX3_setWalls 2 := ⟨by decide +kernel, by decide +kernel, by decide +kernel, by decide, lw_in (i := 217) (by decide +kernel) rfl, lw_in (i := 31) (by decide +kernel) rfl⟩
theorem coX3_addPiece : CO mX3_addPiece 1 := ⟨by decide +kernel, by decide +kernel, by decide +kernel, by decide, lw_in (i := 231) (by decide +kernel) rfl, lw_in (i := 31) (by decide +kernel) rfl⟩
theorem coX3_has : CO mX3_has 1 := ⟨by decide +kernel, by decide +kernel, by decide +kernel, by decide, lw_in (i := 239) (by decide +kernel) rfl, lw_in (i := 31) (by decide +kernel) rfl⟩
theorem coX3_isLying : CO mX3_isLying 1 := ⟨by decide +kernel, by decide +kernel, by decide +kernel, by decide, lw_in (i := 248) (by decide +kernel) rfl, lw_in (i := 31) (by decide +kernel) rfl⟩
theorem coX3_lyingBeside : CO mX3_lyingBeside 1 := ⟨by decide +kernel, by decide +kernel, by decide +kernel, by decide, lw_in (i := 277) (by decide +kernel) rfl, lw_in (i := 31) (by decide +kernel) rfl⟩
theorem coX3_shapeOf : CO mX3_shapeOf 1 := ⟨by decide +kernel, by decide +kernel, by decide +kernel, by decide, lw_in (i := 243) (by decide +kernel) rfl, lw_in (i := 31) (by decide +kernel) rfl⟩
theorem coX3_xOf : CO mX3_xOf 1 := ⟨by decide +kernel, by decide +kernel, by decide +kernel, by decide, lw_in (i := 265) (by decide +kernel) rfl, lw_in (i := 31) (by decide +kernel) rfl⟩
theorem coX3_yOf : CO mX3_yOf 1 := ⟨by decide +kernel, by decide +kernel, by decide +kernel, by decide, lw_in (i := 269) (by decide +kernel) rfl, lw_in (i := 31) (by decide +kernel) rfl⟩
theorem coX3_lay : CO mX3_lay 3 := ⟨by decide +kernel, by decide +kernel, by decide +kernel, by decide, lw_in (i := 329) (by decide +kernel) rfl, lw_in (i := 31) (by decide +kernel) rfl⟩
theorem coX3_take : CO mX3_take 1 := ⟨by decide +kernel, by decide +kernel, by decide +kernel, by decide, lw_in (i := 337) (by decide +kernel) rfl, lw_in (i := 31) (by decide +kernel) rfl⟩
theorem coX3_boardSquares : CO mX3_boardSquares 1 := ⟨by decide +kernel, by decide +kernel, by decide +kernel, by decide, lw_in (i := 300) (by decide +kernel) rfl, lw_in (i := 31) (by decide +kernel) rfl⟩
theorem coX3_wallSquares : CO mX3_wallSquares 1 := ⟨by decide +kernel, by decide +kernel, by decide +kernel, by decide, lw_in (i := 286) (by decide +kernel) rfl, lw_in (i := 31) (by decide +kernel) rfl⟩
theorem coX3_squaresOf : CO mX3_squaresOf 2 := ⟨by decide +kernel, by decide +kernel, by decide +kernel, by decide, lw_in (i := 210) (by decide +kernel) rfl, lw_in (i := 31) (by decide +kernel) rfl⟩
theorem coX3_squaresOfSet : CO mX3_squaresOfSet 2 := ⟨by decide +kernel, by decide +kernel, by decide +kernel, by decide, lw_in (i := 203) (by decide +kernel) rfl, lw_in (i := 31) (by decide +kernel) rfl⟩
theorem coX3_isLainOn : CO mX3_isLainOn 2 := ⟨by decide +kernel, by decide +kernel, by decide +kernel, by decide, lw_in (i := 199) (by decide +kernel) rfl, lw_in (i := 31) (by decide +kernel) rfl⟩
theorem coX3_blockersOf : CO mX3_blockersOf 2 := ⟨by decide +kernel, by decide +kernel, by decide +kernel, by decide, lw_in (i := 438) (by decide +kernel) rfl, lw_in (i := 31) (by decide +kernel) rfl⟩
theorem coX3_sweptAlong : CO mX3_sweptAlong 2 := ⟨by decide +kernel, by decide +kernel, by decide +kernel, by decide, lw_in (i := 442) (by decide +kernel) rfl, lw_in (i := 31) (by decide +kernel) rfl⟩
theorem coX3_piecesOn : CO mX3_piecesOn 2 := ⟨by decide +kernel, by decide +kernel, by decide +kernel, by decide, lw_in (i := 446) (by decide +kernel) rfl, lw_in (i := 31) (by decide +kernel) rfl⟩
theorem coX4_board : CO mX4_board 2 := ⟨by decide +kernel, by decide +kernel, by decide +kernel, by decide, lw_in (i := 175) (by decide +kernel) rfl, lw_in (i := 30) (by decide +kernel) rfl⟩
theorem coX4_walls : CO mX4_walls 2 := ⟨by decide +kernel, by decide +kernel, by decide +kernel, by decide, lw_in (i := 187) (by decide +kernel) rfl, lw_in (i := 30) (by decide +kernel) rfl⟩
theorem coX4_piece : CO mX4_piece 1 := ⟨by decide +kernel, by decide +kernel, by decide +kernel, by decide, lw_in (i := 222) (by decide +kernel) rfl, lw_in (i := 30) (by decide +kernel) rfl⟩
theorem coX4_about : CO mX4_about 2 := ⟨by decide +kernel, by decide +kernel, by decide +kernel, by decide, lw_in (i := 235) (by decide +kernel) rfl, lw_in (i := 30) (by decide +kernel) rfl⟩
theorem coX4_put : CO mX4_put 3 := ⟨by decide +kernel, by decide +kernel, by decide +kernel, by decide, lw_in (i := 320) (by decide +kernel) rfl, lw_in (i := 30) (by decide +kernel) rfl⟩
theorem coX4_away : CO mX4_away 1 := ⟨by decide +kernel, by decide +kernel, by decide +kernel, by decide, lw_in (i := 333) (by decide +kernel) rfl, lw_in (i := 30) (by decide +kernel) rfl⟩
theorem coX4_stands : CO mX4_stands 3 := ⟨by decide +kernel, by decide +kernel, by decide +kernel, by decide, lw_in (i := 341) (by decide +kernel) rfl, lw_in (i := 30) (by decide +kernel) rfl⟩
theorem coX4_slide : CO mX4_slide 3 := ⟨by decide +kernel, by decide +kernel, by decide +kernel, by decide, lw_in (i := 345) (by decide +kernel) rfl, lw_in (i := 30) (by decide +kernel) rfl⟩
theorem coX4_way : CO mX4_way 3 := ⟨by decide +kernel, by decide +kernel, by decide +kernel, by decide, lw_in (i := 367) (by decide +kernel) rfl, lw_in (i := 30) (by decide +kernel) rfl⟩
theorem coX4_stepOf : CO mX4_stepOf 1 := ⟨by decide +kernel, by decide +kernel, by decide +kernel, by decide, lw_in (i := 395) (by decide +kernel) rfl, lw_in (i := 30) (by decide +kernel) rfl⟩
theorem coX4_out : CO mX4_out 1 := ⟨by decide +kernel, by decide +kernel, by decide +kernel, by decide, lw_in (i := 403) (by decide +kernel) rfl, lw_in (i := 30) (by decide +kernel) rfl⟩
theorem coX4_places : CO mX4_places 2 := ⟨by decide +kernel, by decide +kernel, by decide +kernel, by decide, lw_in (i := 412) (by decide +kernel) rfl, lw_in (i := 30) (by decide +kernel) rfl⟩
theorem coX4_blocks : CO mX4_blocks 2 := ⟨by decide +kernel, by decide +kernel, by decide +kernel, by decide, lw_in (i := 434) (by decide +kernel) rfl, lw_in (i := 30) (by decide +kernel) rfl⟩
theorem coX4_order : CO mX4_order 2 := ⟨by decide +kernel, by decide +kernel, by decide +kernel, by decide, lw_in (i := 451) (by decide +kernel) rfl, lw_in (i := 30) (by decide +kernel) rfl⟩
theorem coX4_apart : CO mX4_apart 1 := ⟨by decide +kernel, by decide +kernel, by decide +kernel, by decide, lw_in (i := 474) (by decide +kernel) rfl, lw_in (i := 30) (by decide +kernel) rfl⟩
theorem coX4_push : CO mX4_push 3 := ⟨by decide +kernel, by decide +kernel, by decide +kernel, by decide, lw_in (i := 478) (by decide +kernel) rfl, lw_in (i := 30) (by decide +kernel) rfl⟩
theorem coX4_strip : CO mX4_strip 4 := ⟨by decide +kernel, by decide +kernel, by decide +kernel, by decide, lw_in (i := 491) (by decide +kernel) rfl, lw_in (i := 30) (by decide +kernel) rfl⟩
theorem coX4_best : CO mX4_best 3 := ⟨by decide +kernel, by decide +kernel, by decide +kernel, by decide, lw_in (i := 542) (by decide +kernel) rfl, lw_in (i := 30) (by decide +kernel) rfl⟩
theorem coX4_count : CO mX4_count 1 := ⟨by decide +kernel, by decide +kernel, by decide +kernel, by decide, lw_in (i := 561) (by decide +kernel) rfl, lw_in (i := 30) (by decide +kernel) rfl⟩
theorem coX4_isPlace : CO mX4_isPlace 2 := ⟨by decide +kernel, by decide +kernel, by decide +kernel, by decide, lw_in (i := 313) (by decide +kernel) rfl, lw_in (i := 30) (by decide +kernel) rfl⟩
theorem coX4_isDirection : CO mX4_isDirection 1 := ⟨by decide +kernel, by decide +kernel, by decide +kernel, by decide, lw_in (i := 348) (by decide +kernel) rfl, lw_in (i := 30) (by decide +kernel) rfl⟩
theorem coX4_stepX : CO mX4_stepX 1 := ⟨by decide +kernel, by decide +kernel, by decide +kernel, by decide, lw_in (i := 358) (by decide +kernel) rfl, lw_in (i := 30) (by decide +kernel) rfl⟩
theorem coX4_stepY : CO mX4_stepY 1 := ⟨by decide +kernel, by decide +kernel, by decide +kernel, by decide, lw_in (i := 361) (by decide +kernel) rfl, lw_in (i := 30) (by decide +kernel) rfl⟩
theorem coX4_isIn : CO mX4_isIn 2 := ⟨by decide +kernel, by decide +kernel, by decide +kernel, by decide, lw_in (i := 206) (by decide +kernel) rfl, lw_in (i := 30) (by decide +kernel) rfl⟩
theorem coX4_movedToCorner : CO mX4_movedToCorner 1 := ⟨by decide +kernel, by decide +kernel, by decide +kernel, by decide, lw_in (i := 226) (by decide +kernel) rfl, lw_in (i := 30) (by decide +kernel) rfl⟩
theorem coX4_rowOf : CO mX4_rowOf 2 := ⟨by decide +kernel, by decide +kernel, by decide +kernel, by decide, lw_in (i := 213) (by decide +kernel) rfl, lw_in (i := 30) (by decide +kernel) rfl⟩
theorem coX4_columnsOf : CO mX4_columnsOf 1 := ⟨by decide +kernel, by decide +kernel, by decide +kernel, by decide, lw_in (i := 257) (by decide +kernel) rfl, lw_in (i := 30) (by decide +kernel) rfl⟩
theorem coX4_rowsOf : CO mX4_rowsOf 1 := ⟨by decide +kernel, by decide +kernel, by decide +kernel, by decide, lw_in (i := 260) (by decide +kernel) rfl, lw_in (i := 30) (by decide +kernel) rfl⟩
theorem coX4_leastPush : CO mX4_leastPush 3 := ⟨by decide +kernel, by decide +kernel, by decide +kernel, by decide, lw_in (i := 481) (by decide +kernel) rfl, lw_in (i := 30) (by decide +kernel) rfl⟩
theorem coX4_meet : CO mX4_meet 4 := ⟨by decide +kernel, by decide +kernel, by decide +kernel, by decide, lw_in (i := 487) (by decide +kernel) rfl, lw_in (i := 30) (by decide +kernel) rfl⟩
theorem coX4_pieceInOrder : CO mX4_pieceInOrder 2 := ⟨by decide +kernel, by decide +kernel, by decide +kernel, by decide, lw_in (i := 497) (by decide +kernel) rfl, lw_in (i := 30) (by decide +kernel) rfl⟩
theorem coX4_setOf : CO mX4_setOf 2 := ⟨by decide +kernel, by decide +kernel, by decide +kernel, by decide, lw_in (i := 494) (by decide +kernel) rfl, lw_in (i := 30) (by decide +kernel) rfl⟩
theorem coX5_in : CO mX5_in 3 := ⟨by decide +kernel, by decide +kernel, by decide +kernel, by decide, lw_in (i := 636) (by decide +kernel) rfl, lw_in (i := 35) (by decide +kernel) rfl⟩
theorem coX5_isPiece : CO mX5_isPiece 1 := ⟨by decide +kernel, by decide +kernel, by decide +kernel, by decide, lw_in (i := 658) (by decide +kernel) rfl, lw_in (i := 35) (by decide +kernel) rfl⟩
theorem coX5_isSpot : CO mX5_isSpot 2 := ⟨by decide +kernel, by decide +kernel, by decide +kernel, by decide, lw_in (i := 676) (by decide +kernel) rfl, lw_in (i := 35) (by decide +kernel) rfl⟩
theorem coX5_board : CO mX5_board 2 := ⟨by decide +kernel, by decide +kernel, by decide +kernel, by decide, lw_in (i := 633) (by decide +kernel) rfl, lw_in (i := 35) (by decide +kernel) rfl⟩
theorem coX5_has : CO mX5_has 5 := ⟨by decide +kernel, by decide +kernel, by decide +kernel, by decide, lw_in (i := 644) (by decide +kernel) rfl, lw_in (i := 35) (by decide +kernel) rfl⟩
theorem coX5_isOnBoard : CO mX5_isOnBoard 2 := ⟨by decide +kernel, by decide +kernel, by decide +kernel, by decide, lw_in (i := 669) (by decide +kernel) rfl, lw_in (i := 35) (by decide +kernel) rfl⟩
theorem coX5_walls : CO mX5_walls 2 := ⟨by decide +kernel, by decide +kernel, by decide +kernel, by decide, lw_in (i := 640) (by decide +kernel) rfl, lw_in (i := 35) (by decide +kernel) rfl⟩
theorem coX5_piece : CO mX5_piece 1 := ⟨by decide +kernel, by decide +kernel, by decide +kernel, by decide, lw_in (i := 648) (by decide +kernel) rfl, lw_in (i := 35) (by decide +kernel) rfl⟩
theorem coX5_stand : CO mX5_stand 3 := ⟨by decide +kernel, by decide +kernel, by decide +kernel, by decide, lw_in (i := 680) (by decide +kernel) rfl, lw_in (i := 35) (by decide +kernel) rfl⟩
theorem coX5_onBoard : CO mX5_onBoard 3 := ⟨by decide +kernel, by decide +kernel, by decide +kernel, by decide, lw_in (i := 665) (by decide +kernel) rfl, lw_in (i := 35) (by decide +kernel) rfl⟩
theorem coX5_squares : CO mX5_squares 1 := ⟨by decide +kernel, by decide +kernel, by decide +kernel, by decide, lw_in (i := 661) (by decide +kernel) rfl, lw_in (i := 35) (by decide +kernel) rfl⟩
theorem coX5_about : CO mX5_about 2 := ⟨by decide +kernel, by decide +kernel, by decide +kernel, by decide, lw_in (i := 654) (by decide +kernel) rfl, lw_in (i := 35) (by decide +kernel) rfl⟩
theorem coX5_put : CO mX5_put 3 := ⟨by decide +kernel, by decide +kernel, by decide +kernel, by decide, lw_in (i := 673) (by decide +kernel) rfl, lw_in (i := 35) (by decide +kernel) rfl⟩
theorem coX5_away : CO mX5_away 1 := ⟨by decide +kernel, by decide +kernel, by decide +kernel, by decide, lw_in (i := 684) (by decide +kernel) rfl, lw_in (i := 35) (by decide +kernel) rfl⟩
theorem coX5_stands : CO mX5_stands 3 := ⟨by decide +kernel, by decide +kernel, by decide +kernel, by decide, lw_in (i := 688) (by decide +kernel) rfl, lw_in (i := 35) (by decide +kernel) rfl⟩
theorem coX5_dx : CO mX5_dx 1 := ⟨by decide +kernel, by decide +kernel, by decide +kernel, by decide, lw_in (i := 695) (by decide +kernel) rfl, lw_in (i := 35) (by decide +kernel) rfl⟩
theorem coX5_dy : CO mX5_dy 1 := ⟨by decide +kernel, by decide +kernel, by decide +kernel, by decide, lw_in (i := 698) (by decide +kernel) rfl, lw_in (i := 35) (by decide +kernel) rfl⟩
theorem coX5_slide : CO mX5_slide 3 := ⟨by decide +kernel, by decide +kernel, by decide +kernel, by decide, lw_in (i := 692) (by decide +kernel) rfl, lw_in (i := 35) (by decide +kernel) rfl⟩
theorem coX5_spot : CO mX5_spot 2 := ⟨by decide +kernel, by decide +kernel, by decide +kernel, by decide, lw_in (i := 709) (by decide +kernel) rfl, lw_in (i := 35) (by decide +kernel) rfl⟩
theorem coX5_lays : CO mX5_lays 1 := ⟨by decide +kernel, by decide +kernel, by decide +kernel, by decide, lw_in (i := 706) (by decide +kernel) rfl, lw_in (i := 35) (by decide +kernel) rfl⟩
theorem coX5_spreads : CO mX5_spreads 1 := ⟨by decide +kernel, by decide +kernel, by decide +kernel, by decide, lw_in (i := 713) (by decide +kernel) rfl, lw_in (i := 35) (by decide +kernel) rfl⟩
theorem coX5_way : CO mX5_way 3 := ⟨by decide +kernel, by decide +kernel, by decide +kernel, by decide, lw_in (i := 702) (by decide +kernel) rfl, lw_in (i := 35) (by decide +kernel) rfl⟩
theorem coX5_stepOf : CO mX5_stepOf 1 := ⟨by decide +kernel, by decide +kernel, by decide +kernel, by decide, lw_in (i := 717) (by decide +kernel) rfl, lw_in (i := 35) (by decide +kernel) rfl⟩
theorem coX5_outOf : CO mX5_outOf 1 := ⟨by decide +kernel, by decide +kernel, by decide +kernel, by decide, lw_in (i := 725) (by decide +kernel) rfl, lw_in (i := 35) (by decide +kernel) rfl⟩
theorem coX5_out : CO mX5_out 1 := ⟨by decide +kernel, by decide +kernel, by decide +kernel, by decide, lw_in (i := 721) (by decide +kernel) rfl, lw_in (i := 35) (by decide +kernel) rfl⟩
theorem coX5_places : CO mX5_places 2 := ⟨by decide +kernel, by decide +kernel, by decide +kernel, by decide, lw_in (i := 729) (by decide +kernel) rfl, lw_in (i := 35) (by decide +kernel) rfl⟩
theorem coX5_blocks0 : CO mX5_blocks0 3 := ⟨by decide +kernel, by decide +kernel, by decide +kernel, by decide, lw_in (i := 745) (by decide +kernel) rfl, lw_in (i := 35) (by decide +kernel) rfl⟩
theorem coX5_blockers : CO mX5_blockers 3 := ⟨by decide +kernel, by decide +kernel, by decide +kernel, by decide, lw_in (i := 741) (by decide +kernel) rfl, lw_in (i := 35) (by decide +kernel) rfl⟩
theorem coX5_lying : CO mX5_lying 0 := ⟨by decide +kernel, by decide +kernel, by decide +kernel, by decide, lw_in (i := 737) (by decide +kernel) rfl, lw_in (i := 35) (by decide +kernel) rfl⟩
theorem coX5_blocks : CO mX5_blocks 2 := ⟨by decide +kernel, by decide +kernel, by decide +kernel, by decide, lw_in (i := 733) (by decide +kernel) rfl, lw_in (i := 35) (by decide +kernel) rfl⟩
theorem coX5_lowest : CO mX5_lowest 1 := ⟨by decide +kernel, by decide +kernel, by decide +kernel, by decide, lw_in (i := 752) (by decide +kernel) rfl, lw_in (i := 35) (by decide +kernel) rfl⟩
theorem coX5_order : CO mX5_order 2 := ⟨by decide +kernel, by decide +kernel, by decide +kernel, by decide, lw_in (i := 749) (by decide +kernel) rfl, lw_in (i := 35) (by decide +kernel) rfl⟩
theorem coX5_apart : CO mX5_apart 1 := ⟨by decide +kernel, by decide +kernel, by decide +kernel, by decide, lw_in (i := 756) (by decide +kernel) rfl, lw_in (i := 35) (by decide +kernel) rfl⟩
theorem coX5_meet : CO mX5_meet 4 := ⟨by decide +kernel, by decide +kernel, by decide +kernel, by decide, lw_in (i := 764) (by decide +kernel) rfl, lw_in (i := 35) (by decide +kernel) rfl⟩
theorem coX5_push : CO mX5_push 3 := ⟨by decide +kernel, by decide +kernel, by decide +kernel, by decide, lw_in (i := 760) (by decide +kernel) rfl, lw_in (i := 35) (by decide +kernel) rfl⟩
theorem coX5_rowOf : CO mX5_rowOf 2 := ⟨by decide +kernel, by decide +kernel, by decide +kernel, by decide, lw_in (i := 780) (by decide +kernel) rfl, lw_in (i := 35) (by decide +kernel) rfl⟩
theorem coX5_isFree : CO mX5_isFree 3 := ⟨by decide +kernel, by decide +kernel, by decide +kernel, by decide, lw_in (i := 776) (by decide +kernel) rfl, lw_in (i := 35) (by decide +kernel) rfl⟩
theorem coX5_fills : CO mX5_fills 3 := ⟨by decide +kernel, by decide +kernel, by decide +kernel, by decide, lw_in (i := 772) (by decide +kernel) rfl, lw_in (i := 35) (by decide +kernel) rfl⟩
theorem coX5_strip : CO mX5_strip 4 := ⟨by decide +kernel, by decide +kernel, by decide +kernel, by decide, lw_in (i := 768) (by decide +kernel) rfl, lw_in (i := 35) (by decide +kernel) rfl⟩
theorem coX5_bits : CO mX5_bits 1 := ⟨by decide +kernel, by decide +kernel, by decide +kernel, by decide, lw_in (i := 787) (by decide +kernel) rfl, lw_in (i := 35) (by decide +kernel) rfl⟩
theorem coX5_isOrder : CO mX5_isOrder 3 := ⟨by decide +kernel, by decide +kernel, by decide +kernel, by decide, lw_in (i := 790) (by decide +kernel) rfl, lw_in (i := 35) (by decide +kernel) rfl⟩
theorem coX5_isLower : CO mX5_isLower 2 := ⟨by decide +kernel, by decide +kernel, by decide +kernel, by decide, lw_in (i := 793) (by decide +kernel) rfl, lw_in (i := 35) (by decide +kernel) rfl⟩
theorem coX5_best : CO mX5_best 3 := ⟨by decide +kernel, by decide +kernel, by decide +kernel, by decide, lw_in (i := 784) (by decide +kernel) rfl, lw_in (i := 35) (by decide +kernel) rfl⟩
theorem coX5_count : CO mX5_count 1 := ⟨by decide +kernel, by decide +kernel, by decide +kernel, by decide, lw_in (i := 797) (by decide +kernel) rfl, lw_in (i := 35) (by decide +kernel) rfl⟩
theorem coJ6_bitCount_0f7a4 : CO mJ6_bitCount_0f7a4 1 := ⟨by decide +kernel, by decide +kernel, by decide +kernel, by decide, lw_in (i := 251) (by decide +kernel) rfl, lw_in (i := 36) (by decide +kernel) rfl⟩
theorem coJ9_abs_0f7a4 : CO mJ9_abs_0f7a4 1 := ⟨by decide +kernel, by decide +kernel, by decide +kernel, by decide, lw_in (i := 484) (by decide +kernel) rfl, lw_in (i := 37) (by decide +kernel) rfl⟩
theorem coJ9_max_7cf53 : CO mJ9_max_7cf53 2 := ⟨by decide +kernel, by decide +kernel, by decide +kernel, by decide, lw_in (i := 534) (by decide +kernel) rfl, lw_in (i := 37) (by decide +kernel) rfl⟩
theorem cvX4_41 : CV RX4 41 mX3_renew 2 := ⟨coX3_renew, lw_in (i := 176) (by decide +kernel) rfl, lw_in (i := 177) (by decide +kernel) rfl, lw_in (i := 178) (by decide +kernel) rfl⟩
theorem cvX4_45 : CV RX4 45 mX2_forgetSteps 0 := ⟨coX2_forgetSteps, lw_in (i := 180) (by decide +kernel) rfl, lw_in (i := 181) (by decide +kernel) rfl, lw_in (i := 182) (by decide +kernel) rfl⟩
theorem cvX4_48 : CV RX4 48 mX3_hasRow 1 := ⟨coX3_hasRow, lw_in (i := 188) (by decide +kernel) rfl, lw_in (i := 189) (by decide +kernel) rfl, lw_in (i := 190) (by decide +kernel) rfl⟩
theorem cvX4_52 : CV RX4 52 mX3_wholeRow 0 := ⟨coX3_wholeRow, lw_in (i := 192) (by decide +kernel) rfl, lw_in (i := 193) (by decide +kernel) rfl, lw_in (i := 194) (by decide +kernel) rfl⟩
theorem cvX4_56 : CV RX4 56 mX3_isLainOn 2 := ⟨coX3_isLainOn, lw_in (i := 196) (by decide +kernel) rfl, lw_in (i := 197) (by decide +kernel) rfl, lw_in (i := 198) (by decide +kernel) rfl⟩
theorem cvX4_60 : CV RX4 60 mX3_setWalls 2 := ⟨coX3_setWalls, lw_in (i := 214) (by decide +kernel) rfl, lw_in (i := 215) (by decide +kernel) rfl, lw_in (i := 216) (by decide +kernel) rfl⟩
theorem csX4_64 : CS RX4 64 mX4_movedToCorner 1 := ⟨coX4_movedToCorner, lw_in (i := 224) (by decide +kernel) rfl, lw_in (i := 225) (by decide +kernel) rfl⟩
theorem cvX4_68 : CV RX4 68 mX3_addPiece 1 := ⟨coX3_addPiece, lw_in (i := 228) (by decide +kernel) rfl, lw_in (i := 229) (by decide +kernel) rfl, lw_in (i := 230) (by decide +kernel) rfl⟩
theorem cvX4_71 : CV RX4 71 mX3_has 1 := ⟨coX3_has, lw_in (i := 236) (by decide +kernel) rfl, lw_in (i := 237) (by decide +kernel) rfl, lw_in (i := 238) (by decide +kernel) rfl⟩
theorem cvX4_74 : CV RX4 74 mX3_shapeOf 1 := ⟨coX3_shapeOf, lw_in (i := 240) (by decide +kernel) rfl, lw_in (i := 241) (by decide +kernel) rfl, lw_in (i := 242) (by decide +kernel) rfl⟩
theorem cvX4_77 : CV RX4 77 mX3_isLying 1 := ⟨coX3_isLying, lw_in (i := 245) (by decide +kernel) rfl, lw_in (i := 246) (by decide +kernel) rfl, lw_in (i := 247) (by decide +kernel) rfl⟩
theorem csX4_80 : CS RX4 80 mJ6_bitCount_0f7a4 1 := ⟨coJ6_bitCount_0f7a4, lw_in (i := 249) (by decide +kernel) rfl, lw_in (i := 250) (by decide +kernel) rfl⟩
theorem csX4_85 : CS RX4 85 mX4_columnsOf 1 := ⟨coX4_columnsOf, lw_in (i := 255) (by decide +kernel) rfl, lw_in (i := 256) (by decide +kernel) rfl⟩
theorem csX4_88 : CS RX4 88 mX4_rowsOf 1 := ⟨coX4_rowsOf, lw_in (i := 258) (by decide +kernel) rfl, lw_in (i := 259) (by decide +kernel) rfl⟩
theorem cvX4_91 : CV RX4 91 mX3_xOf 1 := ⟨coX3_xOf, lw_in (i := 262) (by decide +kernel) rfl, lw_in (i := 263) (by decide +kernel) rfl, lw_in (i := 264) (by decide +kernel) rfl⟩
theorem cvX4_94 : CV RX4 94 mX3_yOf 1 := ⟨coX3_yOf, lw_in (i := 266) (by decide +kernel) rfl, lw_in (i := 267) (by decide +kernel) rfl, lw_in (i := 268) (by decide +kernel) rfl⟩
theorem cvX4_97 : CV RX4 97 mX2_isOutWhereItLies 1 := ⟨coX2_isOutWhereItLies, lw_in (i := 270) (by decide +kernel) rfl, lw_in (i := 271) (by decide +kernel) rfl, lw_in (i := 272) (by decide +kernel) rfl⟩
theorem csX4_100 : CS RX4 100 mX4_isPlace 2 := ⟨coX4_isPlace, lw_in (i := 321) (by decide +kernel) rfl, lw_in (i := 312) (by decide +kernel) rfl⟩
theorem cvX4_103 : CV RX4 103 mX2_canStand 3 := ⟨coX2_canStand, lw_in (i := 322) (by decide +kernel) rfl, lw_in (i := 323) (by decide +kernel) rfl, lw_in (i := 324) (by decide +kernel) rfl⟩
theorem cvX4_107 : CV RX4 107 mX3_lay 3 := ⟨coX3_lay, lw_in (i := 326) (by decide +kernel) rfl, lw_in (i := 327) (by decide +kernel) rfl, lw_in (i := 328) (by decide +kernel) rfl⟩
theorem cvX4_111 : CV RX4 111 mX3_take 1 := ⟨coX3_take, lw_in (i := 334) (by decide +kernel) rfl, lw_in (i := 335) (by decide +kernel) rfl, lw_in (i := 336) (by decide +kernel) rfl⟩
theorem csX4_115 : CS RX4 115 mX4_isDirection 1 := ⟨coX4_isDirection, lw_in (i := 346) (by decide +kernel) rfl, lw_in (i := 347) (by decide +kernel) rfl⟩
theorem cvX4_118 : CV RX4 118 mX2_stepsOnward 3 := ⟨coX2_stepsOnward, lw_in (i := 349) (by decide +kernel) rfl, lw_in (i := 350) (by decide +kernel) rfl, lw_in (i := 351) (by decide +kernel) rfl⟩
theorem csX4_122 : CS RX4 122 mX4_stepX 1 := ⟨coX4_stepX, lw_in (i := 362) (by decide +kernel) rfl, lw_in (i := 357) (by decide +kernel) rfl⟩
theorem csX4_125 : CS RX4 125 mX4_stepY 1 := ⟨coX4_stepY, lw_in (i := 363) (by decide +kernel) rfl, lw_in (i := 360) (by decide +kernel) rfl⟩
theorem cvX4_128 : CV RX4 128 mX2_findWay 3 := ⟨coX2_findWay, lw_in (i := 368) (by decide +kernel) rfl, lw_in (i := 369) (by decide +kernel) rfl, lw_in (i := 370) (by decide +kernel) rfl⟩
theorem cvX4_131 : CV RX4 131 mX2_stepAt 1 := ⟨coX2_stepAt, lw_in (i := 396) (by decide +kernel) rfl, lw_in (i := 397) (by decide +kernel) rfl, lw_in (i := 398) (by decide +kernel) rfl⟩
theorem cvX4_134 : CV RX4 134 mX3_lyingBeside 1 := ⟨coX3_lyingBeside, lw_in (i := 404) (by decide +kernel) rfl, lw_in (i := 275) (by decide +kernel) rfl, lw_in (i := 276) (by decide +kernel) rfl⟩
theorem cvX4_137 : CV RX4 137 mX2_stepsOut 2 := ⟨coX2_stepsOut, lw_in (i := 405) (by decide +kernel) rfl, lw_in (i := 406) (by decide +kernel) rfl, lw_in (i := 407) (by decide +kernel) rfl⟩
theorem cvX4_141 : CV RX4 141 mX2_countInside 1 := ⟨coX2_countInside, lw_in (i := 413) (by decide +kernel) rfl, lw_in (i := 414) (by decide +kernel) rfl, lw_in (i := 415) (by decide +kernel) rfl⟩
theorem cvX4_144 : CV RX4 144 mX2_countRooms 1 := ⟨coX2_countRooms, lw_in (i := 427) (by decide +kernel) rfl, lw_in (i := 428) (by decide +kernel) rfl, lw_in (i := 429) (by decide +kernel) rfl⟩
theorem cvX4_147 : CV RX4 147 mX3_blockersOf 2 := ⟨coX3_blockersOf, lw_in (i := 435) (by decide +kernel) rfl, lw_in (i := 436) (by decide +kernel) rfl, lw_in (i := 437) (by decide +kernel) rfl⟩
theorem cvX4_150 : CV RX4 150 mX1_clearOff 1 := ⟨coX1_clearOff, lw_in (i := 452) (by decide +kernel) rfl, lw_in (i := 453) (by decide +kernel) rfl, lw_in (i := 454) (by decide +kernel) rfl⟩
theorem cvX4_153 : CV RX4 153 mX1_told 1 := ⟨coX1_told, lw_in (i := 467) (by decide +kernel) rfl, lw_in (i := 468) (by decide +kernel) rfl, lw_in (i := 469) (by decide +kernel) rfl⟩
theorem csX4_156 : CS RX4 156 mX4_leastPush 3 := ⟨coX4_leastPush, lw_in (i := 479) (by decide +kernel) rfl, lw_in (i := 480) (by decide +kernel) rfl⟩
theorem csX4_159 : CS RX4 159 mX4_setOf 2 := ⟨coX4_setOf, lw_in (i := 492) (by decide +kernel) rfl, lw_in (i := 493) (by decide +kernel) rfl⟩
theorem cvX4_162 : CV RX4 162 mX0_fits 2 := ⟨coX0_fits, lw_in (i := 498) (by decide +kernel) rfl, lw_in (i := 499) (by decide +kernel) rfl, lw_in (i := 500) (by decide +kernel) rfl⟩
theorem cvX4_165 : CV RX4 165 mX0_fill 3 := ⟨coX0_fill, lw_in (i := 509) (by decide +kernel) rfl, lw_in (i := 510) (by decide +kernel) rfl, lw_in (i := 511) (by decide +kernel) rfl⟩
theorem cvX4_168 : CV RX4 168 mX0_spotAt 1 := ⟨coX0_spotAt, lw_in (i := 535) (by decide +kernel) rfl, lw_in (i := 536) (by decide +kernel) rfl, lw_in (i := 537) (by decide +kernel) rfl⟩
theorem cvX4_171 : CV RX4 171 mX0_findBest 2 := ⟨coX0_findBest, lw_in (i := 543) (by decide +kernel) rfl, lw_in (i := 544) (by decide +kernel) rfl, lw_in (i := 545) (by decide +kernel) rfl⟩
theorem cvX4_174 : CV RX4 174 mX0_bestHeight 0 := ⟨coX0_bestHeight, lw_in (i := 550) (by decide +kernel) rfl, lw_in (i := 551) (by decide +kernel) rfl, lw_in (i := 552) (by decide +kernel) rfl⟩
theorem cvX4_177 : CV RX4 177 mX0_bestOrder 0 := ⟨coX0_bestOrder, lw_in (i := 554) (by decide +kernel) rfl, lw_in (i := 555) (by decide +kernel) rfl, lw_in (i := 556) (by decide +kernel) rfl⟩
theorem cvX4_180 : CV RX4 180 mX3_columnCount 0 := ⟨coX3_columnCount, lw_in (i := 562) (by decide +kernel) rfl, lw_in (i := 418) (by decide +kernel) rfl, lw_in (i := 419) (by decide +kernel) rfl⟩
theorem cvX4_183 : CV RX4 183 mX3_rowCount 0 := ⟨coX3_rowCount, lw_in (i := 563) (by decide +kernel) rfl, lw_in (i := 423) (by decide +kernel) rfl, lw_in (i := 424) (by decide +kernel) rfl⟩
theorem cvX4_186 : CV RX4 186 mX3_pieceCount 0 := ⟨coX3_pieceCount, lw_in (i := 564) (by decide +kernel) rfl, lw_in (i := 503) (by decide +kernel) rfl, lw_in (i := 504) (by decide +kernel) rfl⟩
theorem cvX4_189 : CV RX4 189 mX3_lyingSet 0 := ⟨coX3_lyingSet, lw_in (i := 565) (by decide +kernel) rfl, lw_in (i := 457) (by decide +kernel) rfl, lw_in (i := 458) (by decide +kernel) rfl⟩
theorem cvX4_192 : CV RX4 192 mX3_wallCount 0 := ⟨coX3_wallCount, lw_in (i := 566) (by decide +kernel) rfl, lw_in (i := 567) (by decide +kernel) rfl, lw_in (i := 568) (by decide +kernel) rfl⟩
theorem csX4_196 : CS RX4 196 mX4_rowOf 2 := ⟨coX4_rowOf, lw_in (i := 261) (by decide +kernel) rfl, lw_in (i := 212) (by decide +kernel) rfl⟩
theorem csX4_199 : CS RX4 199 mJ9_abs_0f7a4 1 := ⟨coJ9_abs_0f7a4, lw_in (i := 482) (by decide +kernel) rfl, lw_in (i := 483) (by decide +kernel) rfl⟩
theorem csX4_204 : CS RX4 204 mX4_meet 4 := ⟨coX4_meet, lw_in (i := 485) (by decide +kernel) rfl, lw_in (i := 486) (by decide +kernel) rfl⟩
theorem csX4_208 : CS RX4 208 mX4_pieceInOrder 2 := ⟨coX4_pieceInOrder, lw_in (i := 495) (by decide +kernel) rfl, lw_in (i := 496) (by decide +kernel) rfl⟩
theorem cvX0_32 : CV RX0 32 mX3_pieceCount 0 := ⟨coX3_pieceCount, lw_in (i := 502) (by decide +kernel) rfl, lw_in (i := 503) (by decide +kernel) rfl, lw_in (i := 504) (by decide +kernel) rfl⟩
theorem cvX0_42 : CV RX0 42 mX3_shapeOf 1 := ⟨coX3_shapeOf, lw_in (i := 507) (by decide +kernel) rfl, lw_in (i := 241) (by decide +kernel) rfl, lw_in (i := 242) (by decide +kernel) rfl⟩
theorem cvX0_49 : CV RX0 49 mX0_empty 1 := ⟨coX0_empty, lw_in (i := 513) (by decide +kernel) rfl, lw_in (i := 515) (by decide +kernel) rfl, lw_in (i := 10) (by decide +kernel) rfl⟩
theorem cvX0_57 : CV RX0 57 mX0_spotFor 1 := ⟨coX0_spotFor, lw_in (i := 518) (by decide +kernel) rfl, lw_in (i := 520) (by decide +kernel) rfl, lw_in (i := 11) (by decide +kernel) rfl⟩
theorem cvX0_60 : CV RX0 60 mX0_toggle 2 := ⟨coX0_toggle, lw_in (i := 527) (by decide +kernel) rfl, lw_in (i := 529) (by decide +kernel) rfl, lw_in (i := 13) (by decide +kernel) rfl⟩
theorem csX0_67 : CS RX0 67 mJ9_max_7cf53 2 := ⟨coJ9_max_7cf53, lw_in (i := 532) (by decide +kernel) rfl, lw_in (i := 533) (by decide +kernel) rfl⟩
theorem csX0_72 : CS RX0 72 mX0_search 5 := ⟨coX0_search, lw_in (i := 547) (by decide +kernel) rfl, lw_in (i := 548) (by decide +kernel) rfl⟩
theorem cvX0_76 : CV RX0 76 mX0_isClear 3 := ⟨coX0_isClear, lw_in (i := 522) (by decide +kernel) rfl, lw_in (i := 524) (by decide +kernel) rfl, lw_in (i := 12) (by decide +kernel) rfl⟩
theorem cvX1_30 : CV RX1 30 mX3_lyingSet 0 := ⟨coX3_lyingSet, lw_in (i := 456) (by decide +kernel) rfl, lw_in (i := 457) (by decide +kernel) rfl, lw_in (i := 458) (by decide +kernel) rfl⟩
theorem cvX1_36 : CV RX1 36 mX1_lowestToGo 1 := ⟨coX1_lowestToGo, lw_in (i := 460) (by decide +kernel) rfl, lw_in (i := 462) (by decide +kernel) rfl, lw_in (i := 9) (by decide +kernel) rfl⟩
theorem cvX1_44 : CV RX1 44 mX2_stepsOut 2 := ⟨coX2_stepsOut, lw_in (i := 465) (by decide +kernel) rfl, lw_in (i := 406) (by decide +kernel) rfl, lw_in (i := 407) (by decide +kernel) rfl⟩
theorem cvX1_50 : CV RX1 50 mX3_blockersOf 2 := ⟨coX3_blockersOf, lw_in (i := 466) (by decide +kernel) rfl, lw_in (i := 436) (by decide +kernel) rfl, lw_in (i := 437) (by decide +kernel) rfl⟩
theorem cvX2_41 : CV RX2 41 mX3_lyingBeside 1 := ⟨coX3_lyingBeside, lw_in (i := 274) (by decide +kernel) rfl, lw_in (i := 275) (by decide +kernel) rfl, lw_in (i := 276) (by decide +kernel) rfl⟩
theorem cvX2_47 : CV RX2 47 mX2_survey 2 := ⟨coX2_survey, lw_in (i := 278) (by decide +kernel) rfl, lw_in (i := 280) (by decide +kernel) rfl, lw_in (i := 0) (by decide +kernel) rfl⟩
theorem csX2_51 : CS RX2 51 mX2_placeAt 2 := ⟨coX2_placeAt, lw_in (i := 308) (by decide +kernel) rfl, lw_in (i := 309) (by decide +kernel) rfl⟩
theorem csX2_55 : CS RX2 55 mX2_isMarked 2 := ⟨coX2_isMarked, lw_in (i := 314) (by decide +kernel) rfl, lw_in (i := 315) (by decide +kernel) rfl⟩
theorem cvX2_59 : CV RX2 59 mX2_whereLies 1 := ⟨coX2_whereLies, lw_in (i := 302) (by decide +kernel) rfl, lw_in (i := 304) (by decide +kernel) rfl, lw_in (i := 2) (by decide +kernel) rfl⟩
theorem csX2_62 : CS RX2 62 mX2_beside 2 := ⟨coX2_beside, lw_in (i := 353) (by decide +kernel) rfl, lw_in (i := 354) (by decide +kernel) rfl⟩
theorem cvX2_65 : CV RX2 65 mX2_reach 2 := ⟨coX2_reach, lw_in (i := 372) (by decide +kernel) rfl, lw_in (i := 374) (by decide +kernel) rfl, lw_in (i := 3) (by decide +kernel) rfl⟩
theorem cvX2_68 : CV RX2 68 mX2_spreadFrom 1 := ⟨coX2_spreadFrom, lw_in (i := 380) (by decide +kernel) rfl, lw_in (i := 382) (by decide +kernel) rfl, lw_in (i := 5) (by decide +kernel) rfl⟩
theorem cvX2_72 : CV RX2 72 mX2_distanceOf 1 := ⟨coX2_distanceOf, lw_in (i := 376) (by decide +kernel) rfl, lw_in (i := 378) (by decide +kernel) rfl, lw_in (i := 4) (by decide +kernel) rfl⟩
theorem cvX2_75 : CV RX2 75 mX2_keepSteps 2 := ⟨coX2_keepSteps, lw_in (i := 384) (by decide +kernel) rfl, lw_in (i := 386) (by decide +kernel) rfl, lw_in (i := 6) (by decide +kernel) rfl⟩
theorem cvX2_78 : CV RX2 78 mX3_shapeOf 1 := ⟨coX3_shapeOf, lw_in (i := 282) (by decide +kernel) rfl, lw_in (i := 241) (by decide +kernel) rfl, lw_in (i := 242) (by decide +kernel) rfl⟩
theorem cvX2_81 : CV RX2 81 mX3_columnCount 0 := ⟨coX3_columnCount, lw_in (i := 417) (by decide +kernel) rfl, lw_in (i := 418) (by decide +kernel) rfl, lw_in (i := 419) (by decide +kernel) rfl⟩
theorem cvX2_88 : CV RX2 88 mX3_rowCount 0 := ⟨coX3_rowCount, lw_in (i := 422) (by decide +kernel) rfl, lw_in (i := 423) (by decide +kernel) rfl, lw_in (i := 424) (by decide +kernel) rfl⟩
theorem cvX2_94 : CV RX2 94 mX2_directionTo 2 := ⟨coX2_directionTo, lw_in (i := 388) (by decide +kernel) rfl, lw_in (i := 390) (by decide +kernel) rfl, lw_in (i := 7) (by decide +kernel) rfl⟩
theorem cvX2_97 : CV RX2 97 mX3_wallSquares 1 := ⟨coX3_wallSquares, lw_in (i := 283) (by decide +kernel) rfl, lw_in (i := 284) (by decide +kernel) rfl, lw_in (i := 285) (by decide +kernel) rfl⟩
theorem cvX2_100 : CV RX2 100 mX3_squaresOfSet 2 := ⟨coX3_squaresOfSet, lw_in (i := 287) (by decide +kernel) rfl, lw_in (i := 201) (by decide +kernel) rfl, lw_in (i := 202) (by decide +kernel) rfl⟩
theorem cvX2_103 : CV RX2 103 mX2_markClear 2 := ⟨coX2_markClear, lw_in (i := 288) (by decide +kernel) rfl, lw_in (i := 290) (by decide +kernel) rfl, lw_in (i := 1) (by decide +kernel) rfl⟩
theorem cvX2_107 : CV RX2 107 mX3_boardSquares 1 := ⟨coX3_boardSquares, lw_in (i := 297) (by decide +kernel) rfl, lw_in (i := 298) (by decide +kernel) rfl, lw_in (i := 299) (by decide +kernel) rfl⟩
theorem csX2_113 : CS RX2 113 mX2_hitPlaces 2 := ⟨coX2_hitPlaces, lw_in (i := 293) (by decide +kernel) rfl, lw_in (i := 294) (by decide +kernel) rfl⟩
theorem cvX2_117 : CV RX2 117 mX3_xOf 1 := ⟨coX3_xOf, lw_in (i := 306) (by decide +kernel) rfl, lw_in (i := 263) (by decide +kernel) rfl, lw_in (i := 264) (by decide +kernel) rfl⟩
theorem cvX2_120 : CV RX2 120 mX3_yOf 1 := ⟨coX3_yOf, lw_in (i := 307) (by decide +kernel) rfl, lw_in (i := 267) (by decide +kernel) rfl, lw_in (i := 268) (by decide +kernel) rfl⟩
theorem csX3_37 : CS RX3 37 mJ6_bitCount_0f7a4 1 := ⟨coJ6_bitCount_0f7a4, lw_in (i := 570) (by decide +kernel) rfl, lw_in (i := 250) (by decide +kernel) rfl⟩
theorem cvX3_43 : CV RX3 43 mX3_hasRow 1 := ⟨coX3_hasRow, lw_in (i := 218) (by decide +kernel) rfl, lw_in (i := 189) (by decide +kernel) rfl, lw_in (i := 190) (by decide +kernel) rfl⟩
theorem cvX3_47 : CV RX3 47 mX3_has 1 := ⟨coX3_has, lw_in (i := 244) (by decide +kernel) rfl, lw_in (i := 237) (by decide +kernel) rfl, lw_in (i := 238) (by decide +kernel) rfl⟩
theorem cvX3_54 : CV RX3 54 mX3_wholeRow 0 := ⟨coX3_wholeRow, lw_in (i := 301) (by decide +kernel) rfl, lw_in (i := 193) (by decide +kernel) rfl, lw_in (i := 194) (by decide +kernel) rfl⟩
theorem cvX3_62 : CV RX3 62 mX3_squaresOf 2 := ⟨coX3_squaresOf, lw_in (i := 207) (by decide +kernel) rfl, lw_in (i := 208) (by decide +kernel) rfl, lw_in (i := 209) (by decide +kernel) rfl⟩
theorem cvX3_65 : CV RX3 65 mX3_squaresOfSet 2 := ⟨coX3_squaresOfSet, lw_in (i := 200) (by decide +kernel) rfl, lw_in (i := 201) (by decide +kernel) rfl, lw_in (i := 202) (by decide +kernel) rfl⟩
theorem csX3_71 : CS RX3 71 mX3_sweptAlong 2 := ⟨coX3_sweptAlong, lw_in (i := 440) (by decide +kernel) rfl, lw_in (i := 441) (by decide +kernel) rfl⟩
theorem cvX3_74 : CV RX3 74 mX3_piecesOn 2 := ⟨coX3_piecesOn, lw_in (i := 443) (by decide +kernel) rfl, lw_in (i := 445) (by decide +kernel) rfl, lw_in (i := 8) (by decide +kernel) rfl⟩
theorem cvX3_77 : CV RX3 77 mX3_lyingBeside 1 := ⟨coX3_lyingBeside, lw_in (i := 447) (by decide +kernel) rfl, lw_in (i := 275) (by decide +kernel) rfl, lw_in (i := 276) (by decide +kernel) rfl⟩
theorem cvL_13 : CV RL 13 mX4_board 2 := ⟨coX4_board, lw_in (i := 172) (by decide +kernel) rfl, lw_in (i := 173) (by decide +kernel) rfl, lw_in (i := 174) (by decide +kernel) rfl⟩
theorem cvL_17 : CV RL 17 mX5_board 2 := ⟨coX5_board, lw_in (i := 630) (by decide +kernel) rfl, lw_in (i := 631) (by decide +kernel) rfl, lw_in (i := 632) (by decide +kernel) rfl⟩
theorem cvL_18 : CV RL 18 mX4_walls 2 := ⟨coX4_walls, lw_in (i := 184) (by decide +kernel) rfl, lw_in (i := 185) (by decide +kernel) rfl, lw_in (i := 186) (by decide +kernel) rfl⟩
theorem cvL_21 : CV RL 21 mX5_walls 2 := ⟨coX5_walls, lw_in (i := 637) (by decide +kernel) rfl, lw_in (i := 638) (by decide +kernel) rfl, lw_in (i := 639) (by decide +kernel) rfl⟩
theorem cvL_22 : CV RL 22 mX4_piece 1 := ⟨coX4_piece, lw_in (i := 219) (by decide +kernel) rfl, lw_in (i := 220) (by decide +kernel) rfl, lw_in (i := 221) (by decide +kernel) rfl⟩
theorem cvL_26 : CV RL 26 mX5_piece 1 := ⟨coX5_piece, lw_in (i := 645) (by decide +kernel) rfl, lw_in (i := 646) (by decide +kernel) rfl, lw_in (i := 647) (by decide +kernel) rfl⟩
theorem cvL_27 : CV RL 27 mX4_about 2 := ⟨coX4_about, lw_in (i := 232) (by decide +kernel) rfl, lw_in (i := 233) (by decide +kernel) rfl, lw_in (i := 234) (by decide +kernel) rfl⟩
theorem cvL_30 : CV RL 30 mX5_about 2 := ⟨coX5_about, lw_in (i := 651) (by decide +kernel) rfl, lw_in (i := 652) (by decide +kernel) rfl, lw_in (i := 653) (by decide +kernel) rfl⟩
theorem cvL_31 : CV RL 31 mX4_put 3 := ⟨coX4_put, lw_in (i := 317) (by decide +kernel) rfl, lw_in (i := 318) (by decide +kernel) rfl, lw_in (i := 319) (by decide +kernel) rfl⟩
theorem cvL_35 : CV RL 35 mX5_put 3 := ⟨coX5_put, lw_in (i := 670) (by decide +kernel) rfl, lw_in (i := 671) (by decide +kernel) rfl, lw_in (i := 672) (by decide +kernel) rfl⟩
theorem cvL_36 : CV RL 36 mX4_away 1 := ⟨coX4_away, lw_in (i := 330) (by decide +kernel) rfl, lw_in (i := 331) (by decide +kernel) rfl, lw_in (i := 332) (by decide +kernel) rfl⟩
theorem cvL_39 : CV RL 39 mX5_away 1 := ⟨coX5_away, lw_in (i := 681) (by decide +kernel) rfl, lw_in (i := 682) (by decide +kernel) rfl, lw_in (i := 683) (by decide +kernel) rfl⟩
theorem cvL_40 : CV RL 40 mX4_stands 3 := ⟨coX4_stands, lw_in (i := 338) (by decide +kernel) rfl, lw_in (i := 339) (by decide +kernel) rfl, lw_in (i := 340) (by decide +kernel) rfl⟩
theorem cvL_43 : CV RL 43 mX5_stands 3 := ⟨coX5_stands, lw_in (i := 685) (by decide +kernel) rfl, lw_in (i := 686) (by decide +kernel) rfl, lw_in (i := 687) (by decide +kernel) rfl⟩
theorem cvL_44 : CV RL 44 mX4_slide 3 := ⟨coX4_slide, lw_in (i := 342) (by decide +kernel) rfl, lw_in (i := 343) (by decide +kernel) rfl, lw_in (i := 344) (by decide +kernel) rfl⟩
theorem cvL_47 : CV RL 47 mX5_slide 3 := ⟨coX5_slide, lw_in (i := 689) (by decide +kernel) rfl, lw_in (i := 690) (by decide +kernel) rfl, lw_in (i := 691) (by decide +kernel) rfl⟩
theorem cvL_48 : CV RL 48 mX4_way 3 := ⟨coX4_way, lw_in (i := 364) (by decide +kernel) rfl, lw_in (i := 365) (by decide +kernel) rfl, lw_in (i := 366) (by decide +kernel) rfl⟩
theorem cvL_51 : CV RL 51 mX5_way 3 := ⟨coX5_way, lw_in (i := 699) (by decide +kernel) rfl, lw_in (i := 700) (by decide +kernel) rfl, lw_in (i := 701) (by decide +kernel) rfl⟩
theorem cvL_52 : CV RL 52 mX4_stepOf 1 := ⟨coX4_stepOf, lw_in (i := 392) (by decide +kernel) rfl, lw_in (i := 393) (by decide +kernel) rfl, lw_in (i := 394) (by decide +kernel) rfl⟩
theorem cvL_55 : CV RL 55 mX5_stepOf 1 := ⟨coX5_stepOf, lw_in (i := 714) (by decide +kernel) rfl, lw_in (i := 715) (by decide +kernel) rfl, lw_in (i := 716) (by decide +kernel) rfl⟩
theorem cvL_56 : CV RL 56 mX4_out 1 := ⟨coX4_out, lw_in (i := 400) (by decide +kernel) rfl, lw_in (i := 401) (by decide +kernel) rfl, lw_in (i := 402) (by decide +kernel) rfl⟩
theorem cvL_59 : CV RL 59 mX5_out 1 := ⟨coX5_out, lw_in (i := 718) (by decide +kernel) rfl, lw_in (i := 719) (by decide +kernel) rfl, lw_in (i := 720) (by decide +kernel) rfl⟩
theorem cvL_60 : CV RL 60 mX4_places 2 := ⟨coX4_places, lw_in (i := 409) (by decide +kernel) rfl, lw_in (i := 410) (by decide +kernel) rfl, lw_in (i := 411) (by decide +kernel) rfl⟩
theorem cvL_63 : CV RL 63 mX5_places 2 := ⟨coX5_places, lw_in (i := 726) (by decide +kernel) rfl, lw_in (i := 727) (by decide +kernel) rfl, lw_in (i := 728) (by decide +kernel) rfl⟩
theorem cvL_64 : CV RL 64 mX4_blocks 2 := ⟨coX4_blocks, lw_in (i := 431) (by decide +kernel) rfl, lw_in (i := 432) (by decide +kernel) rfl, lw_in (i := 433) (by decide +kernel) rfl⟩
theorem cvL_67 : CV RL 67 mX5_blocks 2 := ⟨coX5_blocks, lw_in (i := 730) (by decide +kernel) rfl, lw_in (i := 731) (by decide +kernel) rfl, lw_in (i := 732) (by decide +kernel) rfl⟩
theorem cvL_68 : CV RL 68 mX4_order 2 := ⟨coX4_order, lw_in (i := 448) (by decide +kernel) rfl, lw_in (i := 449) (by decide +kernel) rfl, lw_in (i := 450) (by decide +kernel) rfl⟩
theorem cvL_71 : CV RL 71 mX5_order 2 := ⟨coX5_order, lw_in (i := 746) (by decide +kernel) rfl, lw_in (i := 747) (by decide +kernel) rfl, lw_in (i := 748) (by decide +kernel) rfl⟩
theorem cvL_72 : CV RL 72 mX4_apart 1 := ⟨coX4_apart, lw_in (i := 471) (by decide +kernel) rfl, lw_in (i := 472) (by decide +kernel) rfl, lw_in (i := 473) (by decide +kernel) rfl⟩
theorem cvL_75 : CV RL 75 mX5_apart 1 := ⟨coX5_apart, lw_in (i := 753) (by decide +kernel) rfl, lw_in (i := 754) (by decide +kernel) rfl, lw_in (i := 755) (by decide +kernel) rfl⟩
theorem cvL_76 : CV RL 76 mX4_push 3 := ⟨coX4_push, lw_in (i := 475) (by decide +kernel) rfl, lw_in (i := 476) (by decide +kernel) rfl, lw_in (i := 477) (by decide +kernel) rfl⟩
theorem cvL_79 : CV RL 79 mX5_push 3 := ⟨coX5_push, lw_in (i := 757) (by decide +kernel) rfl, lw_in (i := 758) (by decide +kernel) rfl, lw_in (i := 759) (by decide +kernel) rfl⟩
theorem cvL_80 : CV RL 80 mX4_strip 4 := ⟨coX4_strip, lw_in (i := 488) (by decide +kernel) rfl, lw_in (i := 489) (by decide +kernel) rfl, lw_in (i := 490) (by decide +kernel) rfl⟩
theorem cvL_84 : CV RL 84 mX5_strip 4 := ⟨coX5_strip, lw_in (i := 765) (by decide +kernel) rfl, lw_in (i := 766) (by decide +kernel) rfl, lw_in (i := 767) (by decide +kernel) rfl⟩
theorem cvL_85 : CV RL 85 mX4_best 3 := ⟨coX4_best, lw_in (i := 539) (by decide +kernel) rfl, lw_in (i := 540) (by decide +kernel) rfl, lw_in (i := 541) (by decide +kernel) rfl⟩
theorem cvL_88 : CV RL 88 mX5_best 3 := ⟨coX5_best, lw_in (i := 781) (by decide +kernel) rfl, lw_in (i := 782) (by decide +kernel) rfl, lw_in (i := 783) (by decide +kernel) rfl⟩
theorem cvL_89 : CV RL 89 mX4_count 1 := ⟨coX4_count, lw_in (i := 558) (by decide +kernel) rfl, lw_in (i := 559) (by decide +kernel) rfl, lw_in (i := 560) (by decide +kernel) rfl⟩
theorem cvL_92 : CV RL 92 mX5_count 1 := ⟨coX5_count, lw_in (i := 794) (by decide +kernel) rfl, lw_in (i := 795) (by decide +kernel) rfl, lw_in (i := 796) (by decide +kernel) rfl⟩
theorem csX5_63 : CS RX5 63 mX5_in 3 := ⟨coX5_in, lw_in (i := 634) (by decide +kernel) rfl, lw_in (i := 635) (by decide +kernel) rfl⟩
theorem cvX5_67 : CV RX5 67 mX5_has 5 := ⟨coX5_has, lw_in (i := 641) (by decide +kernel) rfl, lw_in (i := 643) (by decide +kernel) rfl, lw_in (i := 14) (by decide +kernel) rfl⟩
theorem cvX5_73 : CV RX5 73 mX5_isOnBoard 2 := ⟨coX5_isOnBoard, lw_in (i := 666) (by decide +kernel) rfl, lw_in (i := 668) (by decide +kernel) rfl, lw_in (i := 17) (by decide +kernel) rfl⟩
theorem cvX5_77 : CV RX5 77 mX5_isPiece 1 := ⟨coX5_isPiece, lw_in (i := 655) (by decide +kernel) rfl, lw_in (i := 657) (by decide +kernel) rfl, lw_in (i := 15) (by decide +kernel) rfl⟩
theorem csX5_81 : CS RX5 81 mX5_squares 1 := ⟨coX5_squares, lw_in (i := 659) (by decide +kernel) rfl, lw_in (i := 660) (by decide +kernel) rfl⟩
theorem cvX5_85 : CV RX5 85 mX5_onBoard 3 := ⟨coX5_onBoard, lw_in (i := 662) (by decide +kernel) rfl, lw_in (i := 664) (by decide +kernel) rfl, lw_in (i := 16) (by decide +kernel) rfl⟩
theorem csX5_89 : CS RX5 89 mX5_isSpot 2 := ⟨coX5_isSpot, lw_in (i := 674) (by decide +kernel) rfl, lw_in (i := 675) (by decide +kernel) rfl⟩
theorem cvX5_92 : CV RX5 92 mX5_stand 3 := ⟨coX5_stand, lw_in (i := 677) (by decide +kernel) rfl, lw_in (i := 679) (by decide +kernel) rfl, lw_in (i := 18) (by decide +kernel) rfl⟩
theorem csX5_95 : CS RX5 95 mX5_dx 1 := ⟨coX5_dx, lw_in (i := 693) (by decide +kernel) rfl, lw_in (i := 694) (by decide +kernel) rfl⟩
theorem csX5_98 : CS RX5 98 mX5_dy 1 := ⟨coX5_dy, lw_in (i := 696) (by decide +kernel) rfl, lw_in (i := 697) (by decide +kernel) rfl⟩
theorem csX5_101 : CS RX5 101 mX5_spot 2 := ⟨coX5_spot, lw_in (i := 707) (by decide +kernel) rfl, lw_in (i := 708) (by decide +kernel) rfl⟩
theorem cvX5_105 : CV RX5 105 mX5_lays 1 := ⟨coX5_lays, lw_in (i := 703) (by decide +kernel) rfl, lw_in (i := 705) (by decide +kernel) rfl, lw_in (i := 19) (by decide +kernel) rfl⟩
theorem cvX5_109 : CV RX5 109 mX5_spreads 1 := ⟨coX5_spreads, lw_in (i := 710) (by decide +kernel) rfl, lw_in (i := 712) (by decide +kernel) rfl, lw_in (i := 20) (by decide +kernel) rfl⟩
theorem cvX5_112 : CV RX5 112 mX5_outOf 1 := ⟨coX5_outOf, lw_in (i := 722) (by decide +kernel) rfl, lw_in (i := 724) (by decide +kernel) rfl, lw_in (i := 21) (by decide +kernel) rfl⟩
theorem cvX5_115 : CV RX5 115 mX5_blocks0 3 := ⟨coX5_blocks0, lw_in (i := 742) (by decide +kernel) rfl, lw_in (i := 744) (by decide +kernel) rfl, lw_in (i := 24) (by decide +kernel) rfl⟩
theorem cvX5_118 : CV RX5 118 mX5_lying 0 := ⟨coX5_lying, lw_in (i := 734) (by decide +kernel) rfl, lw_in (i := 736) (by decide +kernel) rfl, lw_in (i := 22) (by decide +kernel) rfl⟩
theorem cvX5_122 : CV RX5 122 mX5_blockers 3 := ⟨coX5_blockers, lw_in (i := 738) (by decide +kernel) rfl, lw_in (i := 740) (by decide +kernel) rfl, lw_in (i := 23) (by decide +kernel) rfl⟩
theorem csX5_125 : CS RX5 125 mX5_lowest 1 := ⟨coX5_lowest, lw_in (i := 750) (by decide +kernel) rfl, lw_in (i := 751) (by decide +kernel) rfl⟩
theorem cvX5_128 : CV RX5 128 mX5_meet 4 := ⟨coX5_meet, lw_in (i := 761) (by decide +kernel) rfl, lw_in (i := 763) (by decide +kernel) rfl, lw_in (i := 25) (by decide +kernel) rfl⟩
theorem cvX5_132 : CV RX5 132 mX5_rowOf 2 := ⟨coX5_rowOf, lw_in (i := 777) (by decide +kernel) rfl, lw_in (i := 779) (by decide +kernel) rfl, lw_in (i := 28) (by decide +kernel) rfl⟩
theorem cvX5_135 : CV RX5 135 mX5_isFree 3 := ⟨coX5_isFree, lw_in (i := 773) (by decide +kernel) rfl, lw_in (i := 775) (by decide +kernel) rfl, lw_in (i := 27) (by decide +kernel) rfl⟩
theorem cvX5_138 : CV RX5 138 mX5_fills 3 := ⟨coX5_fills, lw_in (i := 769) (by decide +kernel) rfl, lw_in (i := 771) (by decide +kernel) rfl, lw_in (i := 26) (by decide +kernel) rfl⟩
theorem csX5_141 : CS RX5 141 mX5_bits 1 := ⟨coX5_bits, lw_in (i := 785) (by decide +kernel) rfl, lw_in (i := 786) (by decide +kernel) rfl⟩
theorem csX5_144 : CS RX5 144 mX5_isOrder 3 := ⟨coX5_isOrder, lw_in (i := 788) (by decide +kernel) rfl, lw_in (i := 789) (by decide +kernel) rfl⟩
theorem csX5_147 : CS RX5 147 mX5_isLower 2 := ⟨coX5_isLower, lw_in (i := 791) (by decide +kernel) rfl, lw_in (i := 792) (by decide +kernel) rfl⟩
theorem cnX0_38 : CN RX0 38 mX4_isIn 2 := ⟨coX4_isIn, ⟨"GapPieces", by decide +kernel⟩, lw_in (i := 205) (by decide +kernel) rfl⟩
theorem cnX0_46 : CN RX0 46 mX4_columnsOf 1 := ⟨coX4_columnsOf, ⟨"GapPieces", by decide +kernel⟩, lw_in (i := 256) (by decide +kernel) rfl⟩
theorem cnX0_53 : CN RX0 53 mX4_pieceInOrder 2 := ⟨coX4_pieceInOrder, ⟨"GapPieces", by decide +kernel⟩, lw_in (i := 496) (by decide +kernel) rfl⟩
theorem cnX0_64 : CN RX0 64 mX4_rowsOf 1 := ⟨coX4_rowsOf, ⟨"GapPieces", by decide +kernel⟩, lw_in (i := 259) (by decide +kernel) rfl⟩
theorem cnX0_80 : CN RX0 80 mX4_rowOf 2 := ⟨coX4_rowOf, ⟨"GapPieces", by decide +kernel⟩, lw_in (i := 212) (by decide +kernel) rfl⟩
theorem cnX1_40 : CN RX1 40 mX4_isIn 2 := ⟨coX4_isIn, ⟨"GapPieces", by decide +kernel⟩, lw_in (i := 205) (by decide +kernel) rfl⟩
theorem cnX2_85 : CN RX2 85 mX4_columnsOf 1 := ⟨coX4_columnsOf, ⟨"GapPieces", by decide +kernel⟩, lw_in (i := 256) (by decide +kernel) rfl⟩
theorem cnX2_91 : CN RX2 91 mX4_rowsOf 1 := ⟨coX4_rowsOf, ⟨"GapPieces", by decide +kernel⟩, lw_in (i := 259) (by decide +kernel) rfl⟩
theorem cnX2_110 : CN RX2 110 mX4_rowOf 2 := ⟨coX4_rowOf, ⟨"GapPieces", by decide +kernel⟩, lw_in (i := 212) (by decide +kernel) rfl⟩
theorem cnX2_123 : CN RX2 123 mX4_isPlace 2 := ⟨coX4_isPlace, ⟨"GapPieces", by decide +kernel⟩, lw_in (i := 312) (by decide +kernel) rfl⟩
theorem cnX2_127 : CN RX2 127 mX4_stepX 1 := ⟨coX4_stepX, ⟨"GapPieces", by decide +kernel⟩, lw_in (i := 357) (by decide +kernel) rfl⟩
theorem cnX2_130 : CN RX2 130 mX4_stepY 1 := ⟨coX4_stepY, ⟨"GapPieces", by decide +kernel⟩, lw_in (i := 360) (by decide +kernel) rfl⟩
theorem cnX3_50 : CN RX3 50 mX4_isIn 2 := ⟨coX4_isIn, ⟨"GapPieces", by decide +kernel⟩, lw_in (i := 205) (by decide +kernel) rfl⟩
theorem cnX3_58 : CN RX3 58 mX4_rowOf 2 := ⟨coX4_rowOf, ⟨"GapPieces", by decide +kernel⟩, lw_in (i := 212) (by decide +kernel) rfl⟩
theorem cnX3_68 : CN RX3 68 mX4_stepX 1 := ⟨coX4_stepX, ⟨"GapPieces", by decide +kernel⟩, lw_in (i := 357) (by decide +kernel) rfl⟩
