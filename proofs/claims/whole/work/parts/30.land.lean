/-! entering as an equation; lands and holdings at their places (written by program) -/
theorem eq0 {d : Nat} {as : List amV} {Q : amQ} {hr : amR} {hd : amD} {n : Nat} : wpM (d + 1) 0 as Q hr hd n = am_In d 1 3 28 none trX0_init as Q hr hd n := rfl
theorem eq1 {d : Nat} {as : List amV} {Q : amQ} {hr : amR} {hd : amD} {n : Nat} : wpM (d + 1) 1 as Q hr hd n = am_In d 1 0 0 none trX0_clear as Q hr hd n := rfl
theorem eq2 {d : Nat} {as : List amV} {Q : amQ} {hr : amR} {hd : amD} {n : Nat} : wpM (d + 1) 2 as Q hr hd n = am_In d 1 0 0 (some (.int)) trX0_entries as Q hr hd n := rfl
theorem eq3 {d : Nat} {as : List amV} {Q : amQ} {hr : amR} {hd : amD} {n : Nat} : wpM (d + 1) 3 as Q hr hd n = am_In d 3 0 0 none trX0_write as Q hr hd n := rfl
theorem eq4 {d : Nat} {as : List amV} {Q : amQ} {hr : amR} {hd : amD} {n : Nat} : wpM (d + 1) 4 as Q hr hd n = am_In d 1 0 0 none trX0_strike as Q hr hd n := rfl
theorem eq5 {d : Nat} {as : List amV} {Q : amQ} {hr : amR} {hd : amD} {n : Nat} : wpM (d + 1) 5 as Q hr hd n = am_In d 6 0 0 none trX0_seek as Q hr hd n := rfl
theorem eq6 {d : Nat} {as : List amV} {Q : amQ} {hr : amR} {hd : amD} {n : Nat} : wpM (d + 1) 6 as Q hr hd n = am_In d 4 0 0 (some (.int)) trX0_mostTrue as Q hr hd n := rfl
theorem eq7 {d : Nat} {as : List amV} {Q : amQ} {hr : amR} {hd : amD} {n : Nat} : wpM (d + 1) 7 as Q hr hd n = am_In d 6 0 0 (some (.boolean)) trX0_areTrue as Q hr hd n := rfl
theorem eq8 {d : Nat} {as : List amV} {Q : amQ} {hr : amR} {hd : amD} {n : Nat} : wpM (d + 1) 8 as Q hr hd n = am_In d 4 0 0 (some (.int)) trX0_placeInRow as Q hr hd n := rfl
theorem eq9 {d : Nat} {as : List amV} {Q : amQ} {hr : amR} {hd : amD} {n : Nat} : wpM (d + 1) 9 as Q hr hd n = am_In d 1 0 0 (some (.int)) trX0_first as Q hr hd n := rfl
theorem eq10 {d : Nat} {as : List amV} {Q : amQ} {hr : amR} {hd : amD} {n : Nat} : wpM (d + 1) 10 as Q hr hd n = am_In d 1 0 0 (some (.int)) trX0_trueBits as Q hr hd n := rfl
theorem eq11 {d : Nat} {as : List amV} {Q : amQ} {hr : amR} {hd : amD} {n : Nat} : wpM (d + 1) 11 as Q hr hd n = am_In d 1 0 0 (some (.int)) trX0_rivalBits as Q hr hd n := rfl
theorem eq12 {d : Nat} {as : List amV} {Q : amQ} {hr : amR} {hd : amD} {n : Nat} : wpM (d + 1) 12 as Q hr hd n = am_In d 1 7 85 none trX1_init as Q hr hd n := rfl
theorem eq13 {d : Nat} {as : List amV} {Q : amQ} {hr : amR} {hd : amD} {n : Nat} : wpM (d + 1) 13 as Q hr hd n = am_In d 2 0 0 none trX1_setMoreOn as Q hr hd n := rfl
theorem eq14 {d : Nat} {as : List amV} {Q : amQ} {hr : amR} {hd : amD} {n : Nat} : wpM (d + 1) 14 as Q hr hd n = am_In d 3 0 0 none trX1_setLonger as Q hr hd n := rfl
theorem eq15 {d : Nat} {as : List amV} {Q : amQ} {hr : amR} {hd : amD} {n : Nat} : wpM (d + 1) 15 as Q hr hd n = am_In d 4 0 0 (some (.int)) trX1_most as Q hr hd n := rfl
theorem eq16 {d : Nat} {as : List amV} {Q : amQ} {hr : amR} {hd : amD} {n : Nat} : wpM (d + 1) 16 as Q hr hd n = am_In d 1 0 0 (some (.int)) trX1_chosenBits as Q hr hd n := rfl
theorem eq17 {d : Nat} {as : List amV} {Q : amQ} {hr : amR} {hd : amD} {n : Nat} : wpM (d + 1) 17 as Q hr hd n = am_In d 5 0 0 none trX1_load as Q hr hd n := rfl
theorem eq18 {d : Nat} {as : List amV} {Q : amQ} {hr : amR} {hd : amD} {n : Nat} : wpM (d + 1) 18 as Q hr hd n = am_In d 8 0 0 none trX1_loadWant as Q hr hd n := rfl
theorem eq19 {d : Nat} {as : List amV} {Q : amQ} {hr : amR} {hd : amD} {n : Nat} : wpM (d + 1) 19 as Q hr hd n = am_In d 5 0 0 none trX1_search as Q hr hd n := rfl
theorem eq20 {d : Nat} {as : List amV} {Q : amQ} {hr : amR} {hd : amD} {n : Nat} : wpM (d + 1) 20 as Q hr hd n = am_In d 4 0 0 (some (.boolean)) trX1_fits as Q hr hd n := rfl
theorem eq21 {d : Nat} {as : List amV} {Q : amQ} {hr : amR} {hd : amD} {n : Nat} : wpM (d + 1) 21 as Q hr hd n = am_In d 2 0 0 (some (.int)) trX1_roomOn as Q hr hd n := rfl
theorem eq22 {d : Nat} {as : List amV} {Q : amQ} {hr : amR} {hd : amD} {n : Nat} : wpM (d + 1) 22 as Q hr hd n = am_In d 2 3 134 none trX2_init as Q hr hd n := rfl
theorem eq23 {d : Nat} {as : List amV} {Q : amQ} {hr : amR} {hd : amD} {n : Nat} : wpM (d + 1) 23 as Q hr hd n = am_In d 9 0 0 (some (.long)) trX2_leastGiven as Q hr hd n := rfl
theorem eq24 {d : Nat} {as : List amV} {Q : amQ} {hr : amR} {hd : amD} {n : Nat} : wpM (d + 1) 24 as Q hr hd n = am_In d 2 0 0 (some (.int)) trX2_farOf as Q hr hd n := rfl
theorem eq25 {d : Nat} {as : List amV} {Q : amQ} {hr : amR} {hd : amD} {n : Nat} : wpM (d + 1) 25 as Q hr hd n = am_In d 3 0 0 (some (.int)) trX2_indexFor as Q hr hd n := rfl
theorem eq26 {d : Nat} {as : List amV} {Q : amQ} {hr : amR} {hd : amD} {n : Nat} : wpM (d + 1) 26 as Q hr hd n = am_In d 1 0 0 (some (.int)) trX2_shiftOf as Q hr hd n := rfl
theorem eq27 {d : Nat} {as : List amV} {Q : amQ} {hr : amR} {hd : amD} {n : Nat} : wpM (d + 1) 27 as Q hr hd n = am_In d 5 0 0 none trX2_load as Q hr hd n := rfl
theorem eq28 {d : Nat} {as : List amV} {Q : amQ} {hr : amR} {hd : amD} {n : Nat} : wpM (d + 1) 28 as Q hr hd n = am_In d 12 0 0 (some (.long)) trX2_costOf as Q hr hd n := rfl
theorem eq29 {d : Nat} {as : List amV} {Q : amQ} {hr : amR} {hd : amD} {n : Nat} : wpM (d + 1) 29 as Q hr hd n = am_In d 5 0 0 none trX2_addThing as Q hr hd n := rfl
theorem eq30 {d : Nat} {as : List amV} {Q : amQ} {hr : amR} {hd : amD} {n : Nat} : wpM (d + 1) 30 as Q hr hd n = am_In d 1 3 204 none trX3_init as Q hr hd n := rfl
theorem eq31 {d : Nat} {as : List amV} {Q : amQ} {hr : amR} {hd : amD} {n : Nat} : wpM (d + 1) 31 as Q hr hd n = am_In d 3 0 0 none trX3_begin as Q hr hd n := rfl
theorem eq32 {d : Nat} {as : List amV} {Q : amQ} {hr : amR} {hd : amD} {n : Nat} : wpM (d + 1) 32 as Q hr hd n = am_In d 2 0 0 none trX3_copyOf as Q hr hd n := rfl
theorem eq33 {d : Nat} {as : List amV} {Q : amQ} {hr : amR} {hd : amD} {n : Nat} : wpM (d + 1) 33 as Q hr hd n = am_In d 1 0 0 (some (.boolean)) trX3_isKept as Q hr hd n := rfl
theorem eq34 {d : Nat} {as : List amV} {Q : amQ} {hr : amR} {hd : amD} {n : Nat} : wpM (d + 1) 34 as Q hr hd n = am_In d 2 0 0 none trX3_setKept as Q hr hd n := rfl
theorem eq35 {d : Nat} {as : List amV} {Q : amQ} {hr : amR} {hd : amD} {n : Nat} : wpM (d + 1) 35 as Q hr hd n = am_In d 1 0 0 (some (.int)) trX3_today as Q hr hd n := rfl
theorem eq36 {d : Nat} {as : List amV} {Q : amQ} {hr : amR} {hd : amD} {n : Nat} : wpM (d + 1) 36 as Q hr hd n = am_In d 1 0 0 (some (.int)) trX3_carriedSoFar as Q hr hd n := rfl
theorem eq37 {d : Nat} {as : List amV} {Q : amQ} {hr : amR} {hd : amD} {n : Nat} : wpM (d + 1) 37 as Q hr hd n = am_In d 1 0 0 (some (.int)) trX3_lostBits as Q hr hd n := rfl
theorem eq38 {d : Nat} {as : List amV} {Q : amQ} {hr : amR} {hd : amD} {n : Nat} : wpM (d + 1) 38 as Q hr hd n = am_In d 1 0 0 (some (.int)) trX3_lawNow as Q hr hd n := rfl
theorem eq39 {d : Nat} {as : List amV} {Q : amQ} {hr : amR} {hd : amD} {n : Nat} : wpM (d + 1) 39 as Q hr hd n = am_In d 2 0 0 none trX3_setLaw as Q hr hd n := rfl
theorem eq40 {d : Nat} {as : List amV} {Q : amQ} {hr : amR} {hd : amD} {n : Nat} : wpM (d + 1) 40 as Q hr hd n = am_In d 2 0 0 (some (.boolean)) trX3_isLost as Q hr hd n := rfl
theorem eq41 {d : Nat} {as : List amV} {Q : amQ} {hr : amR} {hd : amD} {n : Nat} : wpM (d + 1) 41 as Q hr hd n = am_In d 2 0 0 none trX3_setLost as Q hr hd n := rfl
theorem eq42 {d : Nat} {as : List amV} {Q : amQ} {hr : amR} {hd : amD} {n : Nat} : wpM (d + 1) 42 as Q hr hd n = am_In d 2 0 0 (some (.int)) trX3_depthOf as Q hr hd n := rfl
theorem eq43 {d : Nat} {as : List amV} {Q : amQ} {hr : amR} {hd : amD} {n : Nat} : wpM (d + 1) 43 as Q hr hd n = am_In d 3 0 0 (some (.int)) trX3_whoAt as Q hr hd n := rfl
theorem eq44 {d : Nat} {as : List amV} {Q : amQ} {hr : amR} {hd : amD} {n : Nat} : wpM (d + 1) 44 as Q hr hd n = am_In d 3 0 0 (some (.int)) trX3_tillAt as Q hr hd n := rfl
theorem eq45 {d : Nat} {as : List amV} {Q : amQ} {hr : amR} {hd : amD} {n : Nat} : wpM (d + 1) 45 as Q hr hd n = am_In d 2 0 0 (some (.int)) trX3_holderOf as Q hr hd n := rfl
theorem eq46 {d : Nat} {as : List amV} {Q : amQ} {hr : amR} {hd : amD} {n : Nat} : wpM (d + 1) 46 as Q hr hd n = am_In d 5 0 0 (some (.int)) trX3_heldBy as Q hr hd n := rfl
theorem eq47 {d : Nat} {as : List amV} {Q : amQ} {hr : amR} {hd : amD} {n : Nat} : wpM (d + 1) 47 as Q hr hd n = am_In d 6 0 0 (some (.boolean)) trX3_mayLend as Q hr hd n := rfl
theorem eq48 {d : Nat} {as : List amV} {Q : amQ} {hr : amR} {hd : amD} {n : Nat} : wpM (d + 1) 48 as Q hr hd n = am_In d 4 0 0 (some (.boolean)) trX3_isInChain as Q hr hd n := rfl
theorem eq49 {d : Nat} {as : List amV} {Q : amQ} {hr : amR} {hd : amD} {n : Nat} : wpM (d + 1) 49 as Q hr hd n = am_In d 6 0 0 (some (.int)) trX3_hand as Q hr hd n := rfl
theorem eq50 {d : Nat} {as : List amV} {Q : amQ} {hr : amR} {hd : amD} {n : Nat} : wpM (d + 1) 50 as Q hr hd n = am_In d 5 0 0 none trX3_push as Q hr hd n := rfl
theorem eq51 {d : Nat} {as : List amV} {Q : amQ} {hr : amR} {hd : amD} {n : Nat} : wpM (d + 1) 51 as Q hr hd n = am_In d 5 0 0 (some (.int)) trX3_giveBack as Q hr hd n := rfl
theorem eq52 {d : Nat} {as : List amV} {Q : amQ} {hr : amR} {hd : amD} {n : Nat} : wpM (d + 1) 52 as Q hr hd n = am_In d 4 0 0 (some (.int)) trX3_passDay as Q hr hd n := rfl
theorem eq53 {d : Nat} {as : List amV} {Q : amQ} {hr : amR} {hd : amD} {n : Nat} : wpM (d + 1) 53 as Q hr hd n = am_In d 5 0 0 (some (.int)) trX3_endLoans as Q hr hd n := rfl
theorem eq54 {d : Nat} {as : List amV} {Q : amQ} {hr : amR} {hd : amD} {n : Nat} : wpM (d + 1) 54 as Q hr hd n = am_In d 6 0 0 (some (.int)) trX3_debt as Q hr hd n := rfl
theorem eq55 {d : Nat} {as : List amV} {Q : amQ} {hr : amR} {hd : amD} {n : Nat} : wpM (d + 1) 55 as Q hr hd n = am_In d 6 0 0 (some (.boolean)) trX3_owesFor as Q hr hd n := rfl
theorem eq56 {d : Nat} {as : List amV} {Q : amQ} {hr : amR} {hd : amD} {n : Nat} : wpM (d + 1) 56 as Q hr hd n = am_In d 1 13 128 none trX4_init as Q hr hd n := rfl
theorem eq57 {d : Nat} {as : List amV} {Q : amQ} {hr : amR} {hd : amD} {n : Nat} : wpM (d + 1) 57 as Q hr hd n = am_In d 1 0 0 none trX4_clear as Q hr hd n := rfl
theorem eq58 {d : Nat} {as : List amV} {Q : amQ} {hr : amR} {hd : amD} {n : Nat} : wpM (d + 1) 58 as Q hr hd n = am_In d 4 0 0 none trX4_addPerson as Q hr hd n := rfl
theorem eq59 {d : Nat} {as : List amV} {Q : amQ} {hr : amR} {hd : amD} {n : Nat} : wpM (d + 1) 59 as Q hr hd n = am_In d 4 0 0 none trX4_addSort as Q hr hd n := rfl
theorem eq60 {d : Nat} {as : List amV} {Q : amQ} {hr : amR} {hd : amD} {n : Nat} : wpM (d + 1) 60 as Q hr hd n = am_In d 3 0 0 none trX4_addThing as Q hr hd n := rfl
theorem eq61 {d : Nat} {as : List amV} {Q : amQ} {hr : amR} {hd : amD} {n : Nat} : wpM (d + 1) 61 as Q hr hd n = am_In d 6 0 0 none trX4_addWant as Q hr hd n := rfl
theorem eq62 {d : Nat} {as : List amV} {Q : amQ} {hr : amR} {hd : amD} {n : Nat} : wpM (d + 1) 62 as Q hr hd n = am_In d 4 0 0 none trX4_orderByFrom as Q hr hd n := rfl
theorem eq63 {d : Nat} {as : List amV} {Q : amQ} {hr : amR} {hd : amD} {n : Nat} : wpM (d + 1) 63 as Q hr hd n = am_In d 2 0 0 none trX4_tellHands as Q hr hd n := rfl
theorem eq64 {d : Nat} {as : List amV} {Q : amQ} {hr : amR} {hd : amD} {n : Nat} : wpM (d + 1) 64 as Q hr hd n = am_In d 2 0 0 none trX4_tellRoad as Q hr hd n := rfl
theorem eq65 {d : Nat} {as : List amV} {Q : amQ} {hr : amR} {hd : amD} {n : Nat} : wpM (d + 1) 65 as Q hr hd n = am_In d 3 0 0 none trX4_tellHeir as Q hr hd n := rfl
theorem eq66 {d : Nat} {as : List amV} {Q : amQ} {hr : amR} {hd : amD} {n : Nat} : wpM (d + 1) 66 as Q hr hd n = am_In d 1 0 0 (some (.int)) trX4_people as Q hr hd n := rfl
theorem eq67 {d : Nat} {as : List amV} {Q : amQ} {hr : amR} {hd : amD} {n : Nat} : wpM (d + 1) 67 as Q hr hd n = am_In d 1 0 0 (some (.int)) trX4_sorts as Q hr hd n := rfl
theorem eq68 {d : Nat} {as : List amV} {Q : amQ} {hr : amR} {hd : amD} {n : Nat} : wpM (d + 1) 68 as Q hr hd n = am_In d 1 0 0 (some (.int)) trX4_things as Q hr hd n := rfl
theorem eq69 {d : Nat} {as : List amV} {Q : amQ} {hr : amR} {hd : amD} {n : Nat} : wpM (d + 1) 69 as Q hr hd n = am_In d 1 0 0 (some (.int)) trX4_wants as Q hr hd n := rfl
theorem eq70 {d : Nat} {as : List amV} {Q : amQ} {hr : amR} {hd : amD} {n : Nat} : wpM (d + 1) 70 as Q hr hd n = am_In d 1 0 0 (some (.boolean)) trX4_handsTold as Q hr hd n := rfl
theorem eq71 {d : Nat} {as : List amV} {Q : amQ} {hr : amR} {hd : amD} {n : Nat} : wpM (d + 1) 71 as Q hr hd n = am_In d 1 0 0 (some (.boolean)) trX4_roadTold as Q hr hd n := rfl
theorem eq72 {d : Nat} {as : List amV} {Q : amQ} {hr : amR} {hd : amD} {n : Nat} : wpM (d + 1) 72 as Q hr hd n = am_In d 1 0 0 (some (.int)) trX4_hands as Q hr hd n := rfl
theorem eq73 {d : Nat} {as : List amV} {Q : amQ} {hr : amR} {hd : amD} {n : Nat} : wpM (d + 1) 73 as Q hr hd n = am_In d 1 0 0 (some (.int)) trX4_road as Q hr hd n := rfl
theorem eq74 {d : Nat} {as : List amV} {Q : amQ} {hr : amR} {hd : amD} {n : Nat} : wpM (d + 1) 74 as Q hr hd n = am_In d 2 0 0 (some (.boolean)) trX4_isPerson as Q hr hd n := rfl
theorem eq75 {d : Nat} {as : List amV} {Q : amQ} {hr : amR} {hd : amD} {n : Nat} : wpM (d + 1) 75 as Q hr hd n = am_In d 2 0 0 (some (.boolean)) trX4_isSort as Q hr hd n := rfl
theorem eq76 {d : Nat} {as : List amV} {Q : amQ} {hr : amR} {hd : amD} {n : Nat} : wpM (d + 1) 76 as Q hr hd n = am_In d 2 0 0 (some (.boolean)) trX4_isThing as Q hr hd n := rfl
theorem eq77 {d : Nat} {as : List amV} {Q : amQ} {hr : amR} {hd : amD} {n : Nat} : wpM (d + 1) 77 as Q hr hd n = am_In d 2 0 0 (some (.boolean)) trX4_isWant as Q hr hd n := rfl
theorem eq78 {d : Nat} {as : List amV} {Q : amQ} {hr : amR} {hd : amD} {n : Nat} : wpM (d + 1) 78 as Q hr hd n = am_In d 4 0 0 (some (.int)) trX4_personNamed as Q hr hd n := rfl
theorem eq79 {d : Nat} {as : List amV} {Q : amQ} {hr : amR} {hd : amD} {n : Nat} : wpM (d + 1) 79 as Q hr hd n = am_In d 4 0 0 (some (.int)) trX4_sortNamed as Q hr hd n := rfl
theorem eq80 {d : Nat} {as : List amV} {Q : amQ} {hr : amR} {hd : amD} {n : Nat} : wpM (d + 1) 80 as Q hr hd n = am_In d 2 0 0 (some (.int)) trX4_placeOf as Q hr hd n := rfl
theorem eq81 {d : Nat} {as : List amV} {Q : amQ} {hr : amR} {hd : amD} {n : Nat} : wpM (d + 1) 81 as Q hr hd n = am_In d 2 0 0 (some (.int)) trX4_heirOf as Q hr hd n := rfl
theorem eq82 {d : Nat} {as : List amV} {Q : amQ} {hr : amR} {hd : amD} {n : Nat} : wpM (d + 1) 82 as Q hr hd n = am_In d 2 0 0 (some (.int)) trX4_worthOf as Q hr hd n := rfl
theorem eq83 {d : Nat} {as : List amV} {Q : amQ} {hr : amR} {hd : amD} {n : Nat} : wpM (d + 1) 83 as Q hr hd n = am_In d 2 0 0 (some (.int)) trX4_sortOfThing as Q hr hd n := rfl
theorem eq84 {d : Nat} {as : List amV} {Q : amQ} {hr : amR} {hd : amD} {n : Nat} : wpM (d + 1) 84 as Q hr hd n = am_In d 2 0 0 (some (.int)) trX4_ownerOf as Q hr hd n := rfl
theorem eq85 {d : Nat} {as : List amV} {Q : amQ} {hr : amR} {hd : amD} {n : Nat} : wpM (d + 1) 85 as Q hr hd n = am_In d 2 0 0 (some (.int)) trX4_homeOf as Q hr hd n := rfl
theorem eq86 {d : Nat} {as : List amV} {Q : amQ} {hr : amR} {hd : amD} {n : Nat} : wpM (d + 1) 86 as Q hr hd n = am_In d 2 0 0 (some (.int)) trX4_whoWants as Q hr hd n := rfl
theorem eq87 {d : Nat} {as : List amV} {Q : amQ} {hr : amR} {hd : amD} {n : Nat} : wpM (d + 1) 87 as Q hr hd n = am_In d 2 0 0 (some (.int)) trX4_placeOfWant as Q hr hd n := rfl
theorem eq88 {d : Nat} {as : List amV} {Q : amQ} {hr : amR} {hd : amD} {n : Nat} : wpM (d + 1) 88 as Q hr hd n = am_In d 2 0 0 (some (.int)) trX4_sortOfWant as Q hr hd n := rfl
theorem eq89 {d : Nat} {as : List amV} {Q : amQ} {hr : amR} {hd : amD} {n : Nat} : wpM (d + 1) 89 as Q hr hd n = am_In d 2 0 0 (some (.int)) trX4_fromOf as Q hr hd n := rfl
theorem eq90 {d : Nat} {as : List amV} {Q : amQ} {hr : amR} {hd : amD} {n : Nat} : wpM (d + 1) 90 as Q hr hd n = am_In d 2 0 0 (some (.int)) trX4_tillOf as Q hr hd n := rfl
theorem eq91 {d : Nat} {as : List amV} {Q : amQ} {hr : amR} {hd : amD} {n : Nat} : wpM (d + 1) 91 as Q hr hd n = am_In d 2 0 0 (some (.int)) trX4_weightOf as Q hr hd n := rfl
theorem eq92 {d : Nat} {as : List amV} {Q : amQ} {hr : amR} {hd : amD} {n : Nat} : wpM (d + 1) 92 as Q hr hd n = am_In d 2 0 0 (some (.int)) trX4_byFirstDay as Q hr hd n := rfl
theorem eq93 {d : Nat} {as : List amV} {Q : amQ} {hr : amR} {hd : amD} {n : Nat} : wpM (d + 1) 93 as Q hr hd n = am_In d 3 0 0 (some (.int)) trX4_apart as Q hr hd n := rfl
theorem eq94 {d : Nat} {as : List amV} {Q : amQ} {hr : amR} {hd : amD} {n : Nat} : wpM (d + 1) 94 as Q hr hd n = am_In d 4 0 0 (some (.int)) trX4_partOf as Q hr hd n := rfl
theorem eq95 {d : Nat} {as : List amV} {Q : amQ} {hr : amR} {hd : amD} {n : Nat} : wpM (d + 1) 95 as Q hr hd n = am_In d 4 0 0 (some (.int)) trX4_weightOfAll as Q hr hd n := rfl
theorem eq96 {d : Nat} {as : List amV} {Q : amQ} {hr : amR} {hd : amD} {n : Nat} : wpM (d + 1) 96 as Q hr hd n = am_In d 4 0 0 (some (.int)) trX4_wantsOfSort as Q hr hd n := rfl
theorem eq97 {d : Nat} {as : List amV} {Q : amQ} {hr : amR} {hd : amD} {n : Nat} : wpM (d + 1) 97 as Q hr hd n = am_In d 4 0 0 (some (.int)) trX4_wantsOfPerson as Q hr hd n := rfl
theorem eq98 {d : Nat} {as : List amV} {Q : amQ} {hr : amR} {hd : amD} {n : Nat} : wpM (d + 1) 98 as Q hr hd n = am_In d 5 0 0 (some (.int)) trX4_wantsOn as Q hr hd n := rfl
theorem eq99 {d : Nat} {as : List amV} {Q : amQ} {hr : amR} {hd : amD} {n : Nat} : wpM (d + 1) 99 as Q hr hd n = am_In d 5 0 0 (some (.int)) trX4_thingsLeft as Q hr hd n := rfl
theorem eq100 {d : Nat} {as : List amV} {Q : amQ} {hr : amR} {hd : amD} {n : Nat} : wpM (d + 1) 100 as Q hr hd n = am_In d 1 0 0 none trX5_init as Q hr hd n := rfl
theorem eq101 {d : Nat} {as : List amV} {Q : amQ} {hr : amR} {hd : amD} {n : Nat} : wpM (d + 1) 101 as Q hr hd n = am_In d 9 0 0 none trX5_reckon as Q hr hd n := rfl
theorem eq102 {d : Nat} {as : List amV} {Q : amQ} {hr : amR} {hd : amD} {n : Nat} : wpM (d + 1) 102 as Q hr hd n = am_In d 5 0 0 (some (.int)) trX5_freeBehind as Q hr hd n := rfl
theorem eq103 {d : Nat} {as : List amV} {Q : amQ} {hr : amR} {hd : amD} {n : Nat} : wpM (d + 1) 103 as Q hr hd n = am_In d 1 0 0 (some (.int)) trX5_hurtBits as Q hr hd n := rfl
theorem eq104 {d : Nat} {as : List amV} {Q : amQ} {hr : amR} {hd : amD} {n : Nat} : wpM (d + 1) 104 as Q hr hd n = am_In d 1 0 0 (some (.int)) trX5_lostWeight as Q hr hd n := rfl
theorem eq105 {d : Nat} {as : List amV} {Q : amQ} {hr : amR} {hd : amD} {n : Nat} : wpM (d + 1) 105 as Q hr hd n = am_In d 8 0 0 (some (.int)) trX5_mostBorne as Q hr hd n := rfl
theorem eq106 {d : Nat} {as : List amV} {Q : amQ} {hr : amR} {hd : amD} {n : Nat} : wpM (d + 1) 106 as Q hr hd n = am_In d 2 17 504 none trX6_init as Q hr hd n := rfl
theorem eq107 {d : Nat} {as : List amV} {Q : amQ} {hr : amR} {hd : amD} {n : Nat} : wpM (d + 1) 107 as Q hr hd n = am_In d 1 0 0 none trX6_forget as Q hr hd n := rfl
theorem eq108 {d : Nat} {as : List amV} {Q : amQ} {hr : amR} {hd : amD} {n : Nat} : wpM (d + 1) 108 as Q hr hd n = am_In d 4 0 0 none trX6_make as Q hr hd n := rfl
theorem eq109 {d : Nat} {as : List amV} {Q : amQ} {hr : amR} {hd : amD} {n : Nat} : wpM (d + 1) 109 as Q hr hd n = am_In d 7 0 0 none trX6_makeSort as Q hr hd n := rfl
theorem eq110 {d : Nat} {as : List amV} {Q : amQ} {hr : amR} {hd : amD} {n : Nat} : wpM (d + 1) 110 as Q hr hd n = am_In d 6 0 0 (some (.int)) trX6_thingAt as Q hr hd n := rfl
theorem eq111 {d : Nat} {as : List amV} {Q : amQ} {hr : amR} {hd : amD} {n : Nat} : wpM (d + 1) 111 as Q hr hd n = am_In d 10 0 0 none trX6_addTrips as Q hr hd n := rfl
theorem eq112 {d : Nat} {as : List amV} {Q : amQ} {hr : amR} {hd : amD} {n : Nat} : wpM (d + 1) 112 as Q hr hd n = am_In d 6 0 0 (some (.int)) trX6_lineUp as Q hr hd n := rfl
theorem eq113 {d : Nat} {as : List amV} {Q : amQ} {hr : amR} {hd : amD} {n : Nat} : wpM (d + 1) 113 as Q hr hd n = am_In d 2 0 0 (some (.int)) trX6_lined as Q hr hd n := rfl
theorem eq114 {d : Nat} {as : List amV} {Q : amQ} {hr : amR} {hd : amD} {n : Nat} : wpM (d + 1) 114 as Q hr hd n = am_In d 1 0 0 (some (.int)) trX6_metBits as Q hr hd n := rfl
theorem eq115 {d : Nat} {as : List amV} {Q : amQ} {hr : amR} {hd : amD} {n : Nat} : wpM (d + 1) 115 as Q hr hd n = am_In d 2 0 0 (some (.int)) trX6_thingFor as Q hr hd n := rfl
theorem eq116 {d : Nat} {as : List amV} {Q : amQ} {hr : amR} {hd : amD} {n : Nat} : wpM (d + 1) 116 as Q hr hd n = am_In d 1 0 0 (some (.object "OnlyLent$Trips")) trX6_allTrips as Q hr hd n := rfl
theorem eq117 {d : Nat} {as : List amV} {Q : amQ} {hr : amR} {hd : amD} {n : Nat} : wpM (d + 1) 117 as Q hr hd n = am_In d 4 0 0 (some (.int)) trX6_waysOf as Q hr hd n := rfl
theorem eq118 {d : Nat} {as : List amV} {Q : amQ} {hr : amR} {hd : amD} {n : Nat} : wpM (d + 1) 118 as Q hr hd n = am_In d 13 0 0 (some (.int)) trX6_metInYears as Q hr hd n := rfl
theorem eq119 {d : Nat} {as : List amV} {Q : amQ} {hr : amR} {hd : amD} {n : Nat} : wpM (d + 1) 119 as Q hr hd n = am_In d 2 0 0 none trX7_init as Q hr hd n := rfl
theorem eq120 {d : Nat} {as : List amV} {Q : amQ} {hr : amR} {hd : amD} {n : Nat} : wpM (d + 1) 120 as Q hr hd n = am_In d 3 0 0 (some (.int)) trX7_read as Q hr hd n := rfl
theorem eq121 {d : Nat} {as : List amV} {Q : amQ} {hr : amR} {hd : amD} {n : Nat} : wpM (d + 1) 121 as Q hr hd n = am_In d 2 0 0 (some (.boolean)) trX7_readLine as Q hr hd n := rfl
theorem eq122 {d : Nat} {as : List amV} {Q : amQ} {hr : amR} {hd : amD} {n : Nat} : wpM (d + 1) 122 as Q hr hd n = am_In d 5 0 0 (some (.boolean)) trX7_readPerson as Q hr hd n := rfl
theorem eq123 {d : Nat} {as : List amV} {Q : amQ} {hr : amR} {hd : amD} {n : Nat} : wpM (d + 1) 123 as Q hr hd n = am_In d 5 0 0 (some (.boolean)) trX7_readSort as Q hr hd n := rfl
theorem eq124 {d : Nat} {as : List amV} {Q : amQ} {hr : amR} {hd : amD} {n : Nat} : wpM (d + 1) 124 as Q hr hd n = am_In d 4 0 0 (some (.boolean)) trX7_readThing as Q hr hd n := rfl
theorem eq125 {d : Nat} {as : List amV} {Q : amQ} {hr : amR} {hd : amD} {n : Nat} : wpM (d + 1) 125 as Q hr hd n = am_In d 7 0 0 (some (.boolean)) trX7_readWant as Q hr hd n := rfl
theorem eq126 {d : Nat} {as : List amV} {Q : amQ} {hr : amR} {hd : amD} {n : Nat} : wpM (d + 1) 126 as Q hr hd n = am_In d 3 0 0 (some (.boolean)) trX7_readHands as Q hr hd n := rfl
theorem eq127 {d : Nat} {as : List amV} {Q : amQ} {hr : amR} {hd : amD} {n : Nat} : wpM (d + 1) 127 as Q hr hd n = am_In d 3 0 0 (some (.boolean)) trX7_readRoad as Q hr hd n := rfl
theorem eq128 {d : Nat} {as : List amV} {Q : amQ} {hr : amR} {hd : amD} {n : Nat} : wpM (d + 1) 128 as Q hr hd n = am_In d 4 0 0 (some (.boolean)) trX7_readHeir as Q hr hd n := rfl
theorem eq129 {d : Nat} {as : List amV} {Q : amQ} {hr : amR} {hd : amD} {n : Nat} : wpM (d + 1) 129 as Q hr hd n = am_In d 2 0 0 (some (.boolean)) trX7_isNewName as Q hr hd n := rfl
theorem eq130 {d : Nat} {as : List amV} {Q : amQ} {hr : amR} {hd : amD} {n : Nat} : wpM (d + 1) 130 as Q hr hd n = am_In d 1 0 0 (some (.boolean)) trX7_isKept as Q hr hd n := rfl
theorem eq131 {d : Nat} {as : List amV} {Q : amQ} {hr : amR} {hd : amD} {n : Nat} : wpM (d + 1) 131 as Q hr hd n = am_In d 3 0 0 (some (.boolean)) trX7_isNumber as Q hr hd n := rfl
theorem eq132 {d : Nat} {as : List amV} {Q : amQ} {hr : amR} {hd : amD} {n : Nat} : wpM (d + 1) 132 as Q hr hd n = am_In d 2 0 0 (some (.int)) trX7_personHere as Q hr hd n := rfl
theorem eq133 {d : Nat} {as : List amV} {Q : amQ} {hr : amR} {hd : amD} {n : Nat} : wpM (d + 1) 133 as Q hr hd n = am_In d 2 0 0 (some (.int)) trX7_sortHere as Q hr hd n := rfl
theorem eq134 {d : Nat} {as : List amV} {Q : amQ} {hr : amR} {hd : amD} {n : Nat} : wpM (d + 1) 134 as Q hr hd n = am_In d 1 0 0 (some (.boolean)) trX7_closes as Q hr hd n := rfl
theorem eq135 {d : Nat} {as : List amV} {Q : amQ} {hr : amR} {hd : amD} {n : Nat} : wpM (d + 1) 135 as Q hr hd n = am_In d 3 0 0 (some (.boolean)) trX7_says as Q hr hd n := rfl
theorem eq136 {d : Nat} {as : List amV} {Q : amQ} {hr : amR} {hd : amD} {n : Nat} : wpM (d + 1) 136 as Q hr hd n = am_In d 2 0 0 none trX7_step as Q hr hd n := rfl
theorem eq137 {d : Nat} {as : List amV} {Q : amQ} {hr : amR} {hd : amD} {n : Nat} : wpM (d + 1) 137 as Q hr hd n = am_In d 1 0 0 none trX7_takeWord as Q hr hd n := rfl
theorem eq138 {d : Nat} {as : List amV} {Q : amQ} {hr : amR} {hd : amD} {n : Nat} : wpM (d + 1) 138 as Q hr hd n = am_In d 1 0 0 none trX7_takeNumber as Q hr hd n := rfl
theorem eq139 {d : Nat} {as : List amV} {Q : amQ} {hr : amR} {hd : amD} {n : Nat} : wpM (d + 1) 139 as Q hr hd n = am_In d 1 0 0 (some (.boolean)) trX7_isBlank as Q hr hd n := rfl
theorem eq140 {d : Nat} {as : List amV} {Q : amQ} {hr : amR} {hd : amD} {n : Nat} : wpM (d + 1) 140 as Q hr hd n = am_In d 1 0 0 (some (.boolean)) trX7_isLetter as Q hr hd n := rfl
theorem eq141 {d : Nat} {as : List amV} {Q : amQ} {hr : amR} {hd : amD} {n : Nat} : wpM (d + 1) 141 as Q hr hd n = am_In d 1 0 0 (some (.boolean)) trX7_isDigit as Q hr hd n := rfl
theorem eq142 {d : Nat} {as : List amV} {Q : amQ} {hr : amR} {hd : amD} {n : Nat} : wpM (d + 1) 142 as Q hr hd n = am_In d 1 1 500 none trX8_init as Q hr hd n := rfl
theorem eq143 {d : Nat} {as : List amV} {Q : amQ} {hr : amR} {hd : amD} {n : Nat} : wpM (d + 1) 143 as Q hr hd n = am_In d 1 0 0 (some (.int)) trX8_size as Q hr hd n := rfl
theorem eq144 {d : Nat} {as : List amV} {Q : amQ} {hr : amR} {hd : amD} {n : Nat} : wpM (d + 1) 144 as Q hr hd n = am_In d 2 0 0 (some (.boolean)) trX8_hasRoom as Q hr hd n := rfl
theorem eq145 {d : Nat} {as : List amV} {Q : amQ} {hr : amR} {hd : amD} {n : Nat} : wpM (d + 1) 145 as Q hr hd n = am_In d 2 0 0 none trX8_addNumber as Q hr hd n := rfl
theorem eq146 {d : Nat} {as : List amV} {Q : amQ} {hr : amR} {hd : amD} {n : Nat} : wpM (d + 1) 146 as Q hr hd n = am_In d 2 0 0 none trX8_addByte as Q hr hd n := rfl
theorem eq147 {d : Nat} {as : List amV} {Q : amQ} {hr : amR} {hd : amD} {n : Nat} : wpM (d + 1) 147 as Q hr hd n = am_In d 2 0 0 none trX8_cut as Q hr hd n := rfl
theorem eq148 {d : Nat} {as : List amV} {Q : amQ} {hr : amR} {hd : amD} {n : Nat} : wpM (d + 1) 148 as Q hr hd n = am_In d 2 0 0 (some (.int)) trX8_byteAt as Q hr hd n := rfl
theorem eq149 {d : Nat} {as : List amV} {Q : amQ} {hr : amR} {hd : amD} {n : Nat} : wpM (d + 1) 149 as Q hr hd n = am_In d 1 7 318 none trX9_init as Q hr hd n := rfl
theorem eq150 {d : Nat} {as : List amV} {Q : amQ} {hr : amR} {hd : amD} {n : Nat} : wpM (d + 1) 150 as Q hr hd n = am_In d 1 0 0 none trX9_clear as Q hr hd n := rfl
theorem eq151 {d : Nat} {as : List amV} {Q : amQ} {hr : amR} {hd : amD} {n : Nat} : wpM (d + 1) 151 as Q hr hd n = am_In d 7 0 0 none trX9_add as Q hr hd n := rfl
theorem eq152 {d : Nat} {as : List amV} {Q : amQ} {hr : amR} {hd : amD} {n : Nat} : wpM (d + 1) 152 as Q hr hd n = am_In d 4 0 0 (some (.boolean)) trX9_isOf as Q hr hd n := rfl
theorem eq153 {d : Nat} {as : List amV} {Q : amQ} {hr : amR} {hd : amD} {n : Nat} : wpM (d + 1) 153 as Q hr hd n = am_In d 5 0 0 (some (.int)) trX9_howMany as Q hr hd n := rfl
theorem eq154 {d : Nat} {as : List amV} {Q : amQ} {hr : amR} {hd : amD} {n : Nat} : wpM (d + 1) 154 as Q hr hd n = am_In d 5 0 0 (some (.int)) trX9_howFar as Q hr hd n := rfl
theorem eq155 {d : Nat} {as : List amV} {Q : amQ} {hr : amR} {hd : amD} {n : Nat} : wpM (d + 1) 155 as Q hr hd n = am_In d 6 0 0 (some (.int)) trX9_exchanged as Q hr hd n := rfl
theorem eq156 {d : Nat} {as : List amV} {Q : amQ} {hr : amR} {hd : amD} {n : Nat} : wpM (d + 1) 156 as Q hr hd n = am_In d 6 0 0 (some (.int)) trX9_daysLater as Q hr hd n := rfl
theorem eq157 {d : Nat} {as : List amV} {Q : amQ} {hr : amR} {hd : amD} {n : Nat} : wpM (d + 1) 157 as Q hr hd n = am_In d 1 2 13 none trX10_init as Q hr hd n := rfl
theorem eq158 {d : Nat} {as : List amV} {Q : amQ} {hr : amR} {hd : amD} {n : Nat} : wpM (d + 1) 158 as Q hr hd n = am_In d 3 0 0 none trX10_setPlace as Q hr hd n := rfl
theorem eq159 {d : Nat} {as : List amV} {Q : amQ} {hr : amR} {hd : amD} {n : Nat} : wpM (d + 1) 159 as Q hr hd n = am_In d 12 0 0 (some (.int)) trX10_leastWay as Q hr hd n := rfl
theorem eq160 {d : Nat} {as : List amV} {Q : amQ} {hr : amR} {hd : amD} {n : Nat} : wpM (d + 1) 160 as Q hr hd n = am_In d 1 0 0 (some (.int)) trX10_farOf as Q hr hd n := rfl
theorem eq161 {d : Nat} {as : List amV} {Q : amQ} {hr : amR} {hd : amD} {n : Nat} : wpM (d + 1) 161 as Q hr hd n = am_In d 2 0 0 (some (.boolean)) trX10_isHomeBehind as Q hr hd n := rfl
theorem eq162 {d : Nat} {as : List amV} {Q : amQ} {hr : amR} {hd : amD} {n : Nat} : wpM (d + 1) 162 as Q hr hd n = am_In d 2 80 2306 none trX11_init as Q hr hd n := rfl
theorem eq163 {d : Nat} {as : List amV} {Q : amQ} {hr : amR} {hd : amD} {n : Nat} : wpM (d + 1) 163 as Q hr hd n = am_In d 6 0 0 (some (.int)) trX11_feed as Q hr hd n := rfl
theorem eq164 {d : Nat} {as : List amV} {Q : amQ} {hr : amR} {hd : amD} {n : Nat} : wpM (d + 1) 164 as Q hr hd n = am_In d 2 0 0 (some (.boolean)) trX11_end as Q hr hd n := rfl
theorem eq165 {d : Nat} {as : List amV} {Q : amQ} {hr : amR} {hd : amD} {n : Nat} : wpM (d + 1) 165 as Q hr hd n = am_In d 1 0 0 (some (.int)) trX11_fault as Q hr hd n := rfl
theorem eq166 {d : Nat} {as : List amV} {Q : amQ} {hr : amR} {hd : amD} {n : Nat} : wpM (d + 1) 166 as Q hr hd n = am_In d 2 0 0 (some (.int)) trX11_land as Q hr hd n := rfl
theorem eq167 {d : Nat} {as : List amV} {Q : amQ} {hr : amR} {hd : amD} {n : Nat} : wpM (d + 1) 167 as Q hr hd n = am_In d 3 0 0 (some (.int)) trX11_person as Q hr hd n := rfl
theorem eq168 {d : Nat} {as : List amV} {Q : amQ} {hr : amR} {hd : amD} {n : Nat} : wpM (d + 1) 168 as Q hr hd n = am_In d 3 0 0 (some (.int)) trX11_want as Q hr hd n := rfl
theorem eq169 {d : Nat} {as : List amV} {Q : amQ} {hr : amR} {hd : amD} {n : Nat} : wpM (d + 1) 169 as Q hr hd n = am_In d 3 0 0 (some (.int)) trX11_thing as Q hr hd n := rfl
theorem eq170 {d : Nat} {as : List amV} {Q : amQ} {hr : amR} {hd : amD} {n : Nat} : wpM (d + 1) 170 as Q hr hd n = am_In d 4 0 0 (some (.int)) trX11_chain as Q hr hd n := rfl
theorem eq171 {d : Nat} {as : List amV} {Q : amQ} {hr : amR} {hd : amD} {n : Nat} : wpM (d + 1) 171 as Q hr hd n = am_In d 4 0 0 (some (.int)) trX11_lend as Q hr hd n := rfl
theorem eq172 {d : Nat} {as : List amV} {Q : amQ} {hr : amR} {hd : amD} {n : Nat} : wpM (d + 1) 172 as Q hr hd n = am_In d 2 0 0 (some (.int)) trX11_back as Q hr hd n := rfl
theorem eq173 {d : Nat} {as : List amV} {Q : amQ} {hr : amR} {hd : amD} {n : Nat} : wpM (d + 1) 173 as Q hr hd n = am_In d 4 0 0 (some (.int)) trX11_go as Q hr hd n := rfl
theorem eq174 {d : Nat} {as : List amV} {Q : amQ} {hr : amR} {hd : amD} {n : Nat} : wpM (d + 1) 174 as Q hr hd n = am_In d 2 0 0 (some (.boolean)) trX11_lose as Q hr hd n := rfl
theorem eq175 {d : Nat} {as : List amV} {Q : amQ} {hr : amR} {hd : amD} {n : Nat} : wpM (d + 1) 175 as Q hr hd n = am_In d 2 0 0 (some (.boolean)) trX11_law as Q hr hd n := rfl
theorem eq176 {d : Nat} {as : List amV} {Q : amQ} {hr : amR} {hd : amD} {n : Nat} : wpM (d + 1) 176 as Q hr hd n = am_In d 3 0 0 (some (.int)) trX11_owes as Q hr hd n := rfl
theorem eq177 {d : Nat} {as : List amV} {Q : amQ} {hr : amR} {hd : amD} {n : Nat} : wpM (d + 1) 177 as Q hr hd n = am_In d 4 0 0 (some (.int)) trX11_balance as Q hr hd n := rfl
theorem eq178 {d : Nat} {as : List amV} {Q : amQ} {hr : amR} {hd : amD} {n : Nat} : wpM (d + 1) 178 as Q hr hd n = am_In d 2 0 0 (some (.int)) trX11_met as Q hr hd n := rfl
theorem eq179 {d : Nat} {as : List amV} {Q : amQ} {hr : amR} {hd : amD} {n : Nat} : wpM (d + 1) 179 as Q hr hd n = am_In d 4 0 0 (some (.int)) trX11_shorts as Q hr hd n := rfl
theorem eq180 {d : Nat} {as : List amV} {Q : amQ} {hr : amR} {hd : amD} {n : Nat} : wpM (d + 1) 180 as Q hr hd n = am_In d 4 0 0 (some (.int)) trX11_price as Q hr hd n := rfl
theorem eq181 {d : Nat} {as : List amV} {Q : amQ} {hr : amR} {hd : amD} {n : Nat} : wpM (d + 1) 181 as Q hr hd n = am_In d 5 0 0 (some (.int)) trX11_longer as Q hr hd n := rfl
theorem eq182 {d : Nat} {as : List amV} {Q : amQ} {hr : amR} {hd : amD} {n : Nat} : wpM (d + 1) 182 as Q hr hd n = am_In d 3 0 0 (some (.int)) trX11_other as Q hr hd n := rfl
theorem eq183 {d : Nat} {as : List amV} {Q : amQ} {hr : amR} {hd : amD} {n : Nat} : wpM (d + 1) 183 as Q hr hd n = am_In d 2 0 0 (some (.int)) trX11_given as Q hr hd n := rfl
theorem eq184 {d : Nat} {as : List amV} {Q : amQ} {hr : amR} {hd : amD} {n : Nat} : wpM (d + 1) 184 as Q hr hd n = am_In d 3 0 0 (some (.int)) trX11_carry as Q hr hd n := rfl
theorem eq185 {d : Nat} {as : List amV} {Q : amQ} {hr : amR} {hd : amD} {n : Nat} : wpM (d + 1) 185 as Q hr hd n = am_In d 5 0 0 (some (.int)) trX11_moves as Q hr hd n := rfl
theorem eq186 {d : Nat} {as : List amV} {Q : amQ} {hr : amR} {hd : amD} {n : Nat} : wpM (d + 1) 186 as Q hr hd n = am_In d 1 0 0 (some (.int)) trX11_spread as Q hr hd n := rfl
theorem eq187 {d : Nat} {as : List amV} {Q : amQ} {hr : amR} {hd : amD} {n : Nat} : wpM (d + 1) 187 as Q hr hd n = am_In d 4 0 0 (some (.int)) trX11_late as Q hr hd n := rfl
theorem eq188 {d : Nat} {as : List amV} {Q : amQ} {hr : amR} {hd : amD} {n : Nat} : wpM (d + 1) 188 as Q hr hd n = am_In d 2 0 0 (some (.int)) trX11_bears as Q hr hd n := rfl
theorem eq189 {d : Nat} {as : List amV} {Q : amQ} {hr : amR} {hd : amD} {n : Nat} : wpM (d + 1) 189 as Q hr hd n = am_In d 4 0 0 (some (.int)) trX11_dies as Q hr hd n := rfl
theorem eq190 {d : Nat} {as : List amV} {Q : amQ} {hr : amR} {hd : amD} {n : Nat} : wpM (d + 1) 190 as Q hr hd n = am_In d 3 0 0 (some (.int)) trX11_entry as Q hr hd n := rfl
theorem eq191 {d : Nat} {as : List amV} {Q : amQ} {hr : amR} {hd : amD} {n : Nat} : wpM (d + 1) 191 as Q hr hd n = am_In d 1 0 0 (some (.int)) trX11_undo as Q hr hd n := rfl
theorem eq192 {d : Nat} {as : List amV} {Q : amQ} {hr : amR} {hd : amD} {n : Nat} : wpM (d + 1) 192 as Q hr hd n = am_In d 2 0 0 (some (.int)) trX11_earth as Q hr hd n := rfl
theorem eq193 {d : Nat} {as : List amV} {Q : amQ} {hr : amR} {hd : amD} {n : Nat} : wpM (d + 1) 193 as Q hr hd n = am_In d 4 0 0 (some (.int)) trX11_years as Q hr hd n := rfl
theorem eq194 {d : Nat} {as : List amV} {Q : amQ} {hr : amR} {hd : amD} {n : Nat} : wpM (d + 1) 194 as Q hr hd n = am_In d 3 0 0 (some (.boolean)) trX11_image as Q hr hd n := rfl
theorem eq195 {d : Nat} {as : List amV} {Q : amQ} {hr : amR} {hd : amD} {n : Nat} : wpM (d + 1) 195 as Q hr hd n = am_In d 3 0 0 (some (.boolean)) trX11_on as Q hr hd n := rfl
theorem eq196 {d : Nat} {as : List amV} {Q : amQ} {hr : amR} {hd : amD} {n : Nat} : wpM (d + 1) 196 as Q hr hd n = am_In d 2 0 0 (some (.int)) trX11_status as Q hr hd n := rfl
theorem eq197 {d : Nat} {as : List amV} {Q : amQ} {hr : amR} {hd : amD} {n : Nat} : wpM (d + 1) 197 as Q hr hd n = am_In d 2 0 0 (some (.int)) trX11_count as Q hr hd n := rfl
theorem eq198 {d : Nat} {as : List amV} {Q : amQ} {hr : amR} {hd : amD} {n : Nat} : wpM (d + 1) 198 as Q hr hd n = am_In d 2 0 0 (some (.int)) trX11_countInLand as Q hr hd n := rfl
theorem eq199 {d : Nat} {as : List amV} {Q : amQ} {hr : amR} {hd : amD} {n : Nat} : wpM (d + 1) 199 as Q hr hd n = am_In d 2 0 0 (some (.int)) trX11_refuse as Q hr hd n := rfl
theorem eq200 {d : Nat} {as : List amV} {Q : amQ} {hr : amR} {hd : amD} {n : Nat} : wpM (d + 1) 200 as Q hr hd n = am_In d 2 0 0 (some (.boolean)) trX11_deny as Q hr hd n := rfl
theorem eq201 {d : Nat} {as : List amV} {Q : amQ} {hr : amR} {hd : amD} {n : Nat} : wpM (d + 1) 201 as Q hr hd n = am_In d 2 0 0 (some (.object "OnlyLent$Holdings")) trX11_imageOf as Q hr hd n := rfl
theorem eq202 {d : Nat} {as : List amV} {Q : amQ} {hr : amR} {hd : amD} {n : Nat} : wpM (d + 1) 202 as Q hr hd n = am_In d 3 0 0 none trX11_dropImages as Q hr hd n := rfl
theorem eq203 {d : Nat} {as : List amV} {Q : amQ} {hr : amR} {hd : amD} {n : Nat} : wpM (d + 1) 203 as Q hr hd n = am_In d 1 0 0 none trX11_prepare as Q hr hd n := rfl
theorem eq204 {d : Nat} {as : List amV} {Q : amQ} {hr : amR} {hd : amD} {n : Nat} : wpM (d + 1) 204 as Q hr hd n = am_In d 2 0 0 (some (.int)) trX11_metOfSort as Q hr hd n := rfl
theorem eq205 {d : Nat} {as : List amV} {Q : amQ} {hr : amR} {hd : amD} {n : Nat} : wpM (d + 1) 205 as Q hr hd n = am_In d 6 0 0 (some (.int)) trX11_lostByDeath as Q hr hd n := rfl
theorem eq206 {d : Nat} {as : List amV} {Q : amQ} {hr : amR} {hd : amD} {n : Nat} : wpM (d + 1) 206 as Q hr hd n = am_In d 5 0 0 (some (.int)) trX11_freedByDeath as Q hr hd n := rfl
theorem eq207 {d : Nat} {as : List amV} {Q : amQ} {hr : amR} {hd : amD} {n : Nat} : wpM (d + 1) 207 as Q hr hd n = am_In d 2 0 0 (some (.int)) trX11_at as Q hr hd n := rfl
theorem eq208 {d : Nat} {as : List amV} {Q : amQ} {hr : amR} {hd : amD} {n : Nat} : wpM (d + 1) 208 as Q hr hd n = am_In d 3 0 0 none trX11_put as Q hr hd n := rfl
theorem eq209 {d : Nat} {as : List amV} {Q : amQ} {hr : amR} {hd : amD} {n : Nat} : wpM (d + 1) 209 as Q hr hd n = am_In d 2 0 0 (some (.long)) trX11_at_ as Q hr hd n := rfl
theorem eq210 {d : Nat} {as : List amV} {Q : amQ} {hr : amR} {hd : amD} {n : Nat} : wpM (d + 1) 210 as Q hr hd n = am_In d 4 0 0 none trX11_put_ as Q hr hd n := rfl
theorem eq211 {d : Nat} {as : List amV} {Q : amQ} {hr : amR} {hd : amD} {n : Nat} : wpM (d + 1) 211 as Q hr hd n = am_In d 2 0 0 (some (.boolean)) trX11_hasBit as Q hr hd n := rfl
theorem eq212 {d : Nat} {as : List amV} {Q : amQ} {hr : amR} {hd : amD} {n : Nat} : wpM (d + 1) 212 as Q hr hd n = am_In d 1 60 2342 none trX12_init as Q hr hd n := rfl
theorem eq213 {d : Nat} {as : List amV} {Q : amQ} {hr : amR} {hd : amD} {n : Nat} : wpM (d + 1) 213 as Q hr hd n = am_In d 6 0 0 (some (.boolean)) trX12_in as Q hr hd n := rfl
theorem eq214 {d : Nat} {as : List amV} {Q : amQ} {hr : amR} {hd : amD} {n : Nat} : wpM (d + 1) 214 as Q hr hd n = am_In d 2 0 0 (some (.int)) trX12_refuse as Q hr hd n := rfl
theorem eq215 {d : Nat} {as : List amV} {Q : amQ} {hr : amR} {hd : amD} {n : Nat} : wpM (d + 1) 215 as Q hr hd n = am_In d 2 0 0 (some (.boolean)) trX12_deny as Q hr hd n := rfl
theorem eq216 {d : Nat} {as : List amV} {Q : amQ} {hr : amR} {hd : amD} {n : Nat} : wpM (d + 1) 216 as Q hr hd n = am_In d 2 0 0 (some (.int)) trX12_status as Q hr hd n := rfl
theorem eq217 {d : Nat} {as : List amV} {Q : amQ} {hr : amR} {hd : amD} {n : Nat} : wpM (d + 1) 217 as Q hr hd n = am_In d 3 0 0 none trX12_feeds as Q hr hd n := rfl
theorem eq218 {d : Nat} {as : List amV} {Q : amQ} {hr : amR} {hd : amD} {n : Nat} : wpM (d + 1) 218 as Q hr hd n = am_In d 6 0 0 (some (.int)) trX12_feed as Q hr hd n := rfl
theorem eq219 {d : Nat} {as : List amV} {Q : amQ} {hr : amR} {hd : amD} {n : Nat} : wpM (d + 1) 219 as Q hr hd n = am_In d 2 0 0 (some (.boolean)) trX12_end as Q hr hd n := rfl
theorem eq220 {d : Nat} {as : List amV} {Q : amQ} {hr : amR} {hd : amD} {n : Nat} : wpM (d + 1) 220 as Q hr hd n = am_In d 4 0 0 (some (.boolean)) trX12_between as Q hr hd n := rfl
theorem eq221 {d : Nat} {as : List amV} {Q : amQ} {hr : amR} {hd : amD} {n : Nat} : wpM (d + 1) 221 as Q hr hd n = am_In d 1 0 0 none trX12_next as Q hr hd n := rfl
theorem eq222 {d : Nat} {as : List amV} {Q : amQ} {hr : amR} {hd : amD} {n : Nat} : wpM (d + 1) 222 as Q hr hd n = am_In d 2 0 0 (some (.boolean)) trX12_passes as Q hr hd n := rfl
theorem eq223 {d : Nat} {as : List amV} {Q : amQ} {hr : amR} {hd : amD} {n : Nat} : wpM (d + 1) 223 as Q hr hd n = am_In d 4 0 0 (some (.int)) trX12_wordHere as Q hr hd n := rfl
theorem eq224 {d : Nat} {as : List amV} {Q : amQ} {hr : amR} {hd : amD} {n : Nat} : wpM (d + 1) 224 as Q hr hd n = am_In d 1 0 0 (some (.boolean)) trX12_closes as Q hr hd n := rfl
theorem eq225 {d : Nat} {as : List amV} {Q : amQ} {hr : amR} {hd : amD} {n : Nat} : wpM (d + 1) 225 as Q hr hd n = am_In d 6 0 0 (some (.boolean)) trX12_into as Q hr hd n := rfl
theorem eq226 {d : Nat} {as : List amV} {Q : amQ} {hr : amR} {hd : amD} {n : Nat} : wpM (d + 1) 226 as Q hr hd n = am_In d 4 0 0 (some (.long)) trX12_nameHere as Q hr hd n := rfl
theorem eq227 {d : Nat} {as : List amV} {Q : amQ} {hr : amR} {hd : amD} {n : Nat} : wpM (d + 1) 227 as Q hr hd n = am_In d 5 0 0 (some (.int)) trX12_found as Q hr hd n := rfl
theorem eq228 {d : Nat} {as : List amV} {Q : amQ} {hr : amR} {hd : amD} {n : Nat} : wpM (d + 1) 228 as Q hr hd n = am_In d 4 0 0 (some (.boolean)) trX12_isNew as Q hr hd n := rfl
theorem eq229 {d : Nat} {as : List amV} {Q : amQ} {hr : amR} {hd : amD} {n : Nat} : wpM (d + 1) 229 as Q hr hd n = am_In d 6 0 0 (some (.int)) trX12_ofSort as Q hr hd n := rfl
theorem eq230 {d : Nat} {as : List amV} {Q : amQ} {hr : amR} {hd : amD} {n : Nat} : wpM (d + 1) 230 as Q hr hd n = am_In d 4 0 0 (some (.boolean)) trX12_thingRead as Q hr hd n := rfl
theorem eq231 {d : Nat} {as : List amV} {Q : amQ} {hr : amR} {hd : amD} {n : Nat} : wpM (d + 1) 231 as Q hr hd n = am_In d 4 0 0 (some (.boolean)) trX12_wantRead as Q hr hd n := rfl
theorem eq232 {d : Nat} {as : List amV} {Q : amQ} {hr : amR} {hd : amD} {n : Nat} : wpM (d + 1) 232 as Q hr hd n = am_In d 3 0 0 (some (.boolean)) trX12_heirRead as Q hr hd n := rfl
theorem eq233 {d : Nat} {as : List amV} {Q : amQ} {hr : amR} {hd : amD} {n : Nat} : wpM (d + 1) 233 as Q hr hd n = am_In d 2 0 0 (some (.boolean)) trX12_line as Q hr hd n := rfl
theorem eq234 {d : Nat} {as : List amV} {Q : amQ} {hr : amR} {hd : amD} {n : Nat} : wpM (d + 1) 234 as Q hr hd n = am_In d 3 1 6 none trX12_reads as Q hr hd n := rfl
theorem eq235 {d : Nat} {as : List amV} {Q : amQ} {hr : amR} {hd : amD} {n : Nat} : wpM (d + 1) 235 as Q hr hd n = am_In d 1 1 6 (some (.int)) trX12_fault as Q hr hd n := rfl
theorem eq236 {d : Nat} {as : List amV} {Q : amQ} {hr : amR} {hd : amD} {n : Nat} : wpM (d + 1) 236 as Q hr hd n = am_In d 2 0 0 none trX12_copies as Q hr hd n := rfl
theorem eq237 {d : Nat} {as : List amV} {Q : amQ} {hr : amR} {hd : amD} {n : Nat} : wpM (d + 1) 237 as Q hr hd n = am_In d 2 1 6 (some (.int)) trX12_land as Q hr hd n := rfl
theorem eq238 {d : Nat} {as : List amV} {Q : amQ} {hr : amR} {hd : amD} {n : Nat} : wpM (d + 1) 238 as Q hr hd n = am_In d 1 0 0 (some (.int)) trX12_people as Q hr hd n := rfl
theorem eq239 {d : Nat} {as : List amV} {Q : amQ} {hr : amR} {hd : amD} {n : Nat} : wpM (d + 1) 239 as Q hr hd n = am_In d 1 0 0 (some (.int)) trX12_sorts as Q hr hd n := rfl
theorem eq240 {d : Nat} {as : List amV} {Q : amQ} {hr : amR} {hd : amD} {n : Nat} : wpM (d + 1) 240 as Q hr hd n = am_In d 1 0 0 (some (.int)) trX12_things as Q hr hd n := rfl
theorem eq241 {d : Nat} {as : List amV} {Q : amQ} {hr : amR} {hd : amD} {n : Nat} : wpM (d + 1) 241 as Q hr hd n = am_In d 1 0 0 (some (.int)) trX12_wants as Q hr hd n := rfl
theorem eq242 {d : Nat} {as : List amV} {Q : amQ} {hr : amR} {hd : amD} {n : Nat} : wpM (d + 1) 242 as Q hr hd n = am_In d 2 0 0 (some (.boolean)) trX12_isPerson as Q hr hd n := rfl
theorem eq243 {d : Nat} {as : List amV} {Q : amQ} {hr : amR} {hd : amD} {n : Nat} : wpM (d + 1) 243 as Q hr hd n = am_In d 2 0 0 (some (.boolean)) trX12_isSort as Q hr hd n := rfl
theorem eq244 {d : Nat} {as : List amV} {Q : amQ} {hr : amR} {hd : amD} {n : Nat} : wpM (d + 1) 244 as Q hr hd n = am_In d 2 0 0 (some (.boolean)) trX12_isThing as Q hr hd n := rfl
theorem eq245 {d : Nat} {as : List amV} {Q : amQ} {hr : amR} {hd : amD} {n : Nat} : wpM (d + 1) 245 as Q hr hd n = am_In d 2 0 0 (some (.boolean)) trX12_isWant as Q hr hd n := rfl
theorem eq246 {d : Nat} {as : List amV} {Q : amQ} {hr : amR} {hd : amD} {n : Nat} : wpM (d + 1) 246 as Q hr hd n = am_In d 3 0 0 (some (.int)) trX12_far as Q hr hd n := rfl
theorem eq247 {d : Nat} {as : List amV} {Q : amQ} {hr : amR} {hd : amD} {n : Nat} : wpM (d + 1) 247 as Q hr hd n = am_In d 2 0 0 (some (.int)) trX12_holder as Q hr hd n := rfl
theorem eq248 {d : Nat} {as : List amV} {Q : amQ} {hr : amR} {hd : amD} {n : Nat} : wpM (d + 1) 248 as Q hr hd n = am_In d 2 0 0 (some (.int)) trX12_till as Q hr hd n := rfl
theorem eq249 {d : Nat} {as : List amV} {Q : amQ} {hr : amR} {hd : amD} {n : Nat} : wpM (d + 1) 249 as Q hr hd n = am_In d 5 0 0 (some (.int)) trX12_person as Q hr hd n := rfl
theorem eq250 {d : Nat} {as : List amV} {Q : amQ} {hr : amR} {hd : amD} {n : Nat} : wpM (d + 1) 250 as Q hr hd n = am_In d 3 0 0 (some (.int)) trX12_want as Q hr hd n := rfl
theorem eq251 {d : Nat} {as : List amV} {Q : amQ} {hr : amR} {hd : amD} {n : Nat} : wpM (d + 1) 251 as Q hr hd n = am_In d 3 0 0 (some (.int)) trX12_thing as Q hr hd n := rfl
theorem eq252 {d : Nat} {as : List amV} {Q : amQ} {hr : amR} {hd : amD} {n : Nat} : wpM (d + 1) 252 as Q hr hd n = am_In d 4 0 0 (some (.int)) trX12_chain as Q hr hd n := rfl
theorem eq253 {d : Nat} {as : List amV} {Q : amQ} {hr : amR} {hd : amD} {n : Nat} : wpM (d + 1) 253 as Q hr hd n = am_In d 6 0 0 (some (.int)) trX12_lend as Q hr hd n := rfl
theorem eq254 {d : Nat} {as : List amV} {Q : amQ} {hr : amR} {hd : amD} {n : Nat} : wpM (d + 1) 254 as Q hr hd n = am_In d 4 0 0 (some (.int)) trX12_back as Q hr hd n := rfl
theorem eq255 {d : Nat} {as : List amV} {Q : amQ} {hr : amR} {hd : amD} {n : Nat} : wpM (d + 1) 255 as Q hr hd n = am_In d 6 0 0 (some (.int)) trX12_go as Q hr hd n := rfl
theorem eq256 {d : Nat} {as : List amV} {Q : amQ} {hr : amR} {hd : amD} {n : Nat} : wpM (d + 1) 256 as Q hr hd n = am_In d 2 0 0 (some (.boolean)) trX12_lose as Q hr hd n := rfl
theorem eq257 {d : Nat} {as : List amV} {Q : amQ} {hr : amR} {hd : amD} {n : Nat} : wpM (d + 1) 257 as Q hr hd n = am_In d 2 0 0 (some (.boolean)) trX12_law as Q hr hd n := rfl
theorem eq258 {d : Nat} {as : List amV} {Q : amQ} {hr : amR} {hd : amD} {n : Nat} : wpM (d + 1) 258 as Q hr hd n = am_In d 7 0 0 (some (.int)) trX12_owedOf as Q hr hd n := rfl
theorem eq259 {d : Nat} {as : List amV} {Q : amQ} {hr : amR} {hd : amD} {n : Nat} : wpM (d + 1) 259 as Q hr hd n = am_In d 3 0 0 (some (.int)) trX12_owes as Q hr hd n := rfl
theorem eq260 {d : Nat} {as : List amV} {Q : amQ} {hr : amR} {hd : amD} {n : Nat} : wpM (d + 1) 260 as Q hr hd n = am_In d 4 0 0 (some (.int)) trX12_balance as Q hr hd n := rfl
theorem eq261 {d : Nat} {as : List amV} {Q : amQ} {hr : amR} {hd : amD} {n : Nat} : wpM (d + 1) 261 as Q hr hd n = am_In d 4 0 0 (some (.int)) trX12_thingsOf as Q hr hd n := rfl
theorem eq262 {d : Nat} {as : List amV} {Q : amQ} {hr : amR} {hd : amD} {n : Nat} : wpM (d + 1) 262 as Q hr hd n = am_In d 2 0 0 (some (.int)) trX12_endOf as Q hr hd n := rfl
theorem eq263 {d : Nat} {as : List amV} {Q : amQ} {hr : amR} {hd : amD} {n : Nat} : wpM (d + 1) 263 as Q hr hd n = am_In d 6 0 0 (some (.boolean)) trX12_canMeet as Q hr hd n := rfl
theorem eq264 {d : Nat} {as : List amV} {Q : amQ} {hr : amR} {hd : amD} {n : Nat} : wpM (d + 1) 264 as Q hr hd n = am_In d 4 0 0 (some (.int)) trX12_worthOf as Q hr hd n := rfl
theorem eq265 {d : Nat} {as : List amV} {Q : amQ} {hr : amR} {hd : amD} {n : Nat} : wpM (d + 1) 265 as Q hr hd n = am_In d 4 0 0 (some (.int)) trX12_bitsOf as Q hr hd n := rfl
theorem eq266 {d : Nat} {as : List amV} {Q : amQ} {hr : amR} {hd : amD} {n : Nat} : wpM (d + 1) 266 as Q hr hd n = am_In d 10 0 0 (some (.int)) trX12_bestHeap as Q hr hd n := rfl
theorem eq267 {d : Nat} {as : List amV} {Q : amQ} {hr : amR} {hd : amD} {n : Nat} : wpM (d + 1) 267 as Q hr hd n = am_In d 2 0 0 (some (.int)) trX12_bestOf as Q hr hd n := rfl
theorem eq268 {d : Nat} {as : List amV} {Q : amQ} {hr : amR} {hd : amD} {n : Nat} : wpM (d + 1) 268 as Q hr hd n = am_In d 3 0 0 (some (.int)) trX12_metBits as Q hr hd n := rfl
theorem eq269 {d : Nat} {as : List amV} {Q : amQ} {hr : amR} {hd : amD} {n : Nat} : wpM (d + 1) 269 as Q hr hd n = am_In d 2 0 0 (some (.int)) trX12_met as Q hr hd n := rfl
theorem eq270 {d : Nat} {as : List amV} {Q : amQ} {hr : amR} {hd : amD} {n : Nat} : wpM (d + 1) 270 as Q hr hd n = am_In d 6 0 0 (some (.int)) trX12_shorts as Q hr hd n := rfl
theorem eq271 {d : Nat} {as : List amV} {Q : amQ} {hr : amR} {hd : amD} {n : Nat} : wpM (d + 1) 271 as Q hr hd n = am_In d 5 0 0 (some (.int)) trX12_price as Q hr hd n := rfl
theorem eq272 {d : Nat} {as : List amV} {Q : amQ} {hr : amR} {hd : amD} {n : Nat} : wpM (d + 1) 272 as Q hr hd n = am_In d 6 0 0 (some (.int)) trX12_longer as Q hr hd n := rfl
theorem eq273 {d : Nat} {as : List amV} {Q : amQ} {hr : amR} {hd : amD} {n : Nat} : wpM (d + 1) 273 as Q hr hd n = am_In d 3 0 0 (some (.int)) trX12_other as Q hr hd n := rfl
theorem eq274 {d : Nat} {as : List amV} {Q : amQ} {hr : amR} {hd : amD} {n : Nat} : wpM (d + 1) 274 as Q hr hd n = am_In d 5 0 0 none trX12_laysRow as Q hr hd n := rfl
theorem eq275 {d : Nat} {as : List amV} {Q : amQ} {hr : amR} {hd : amD} {n : Nat} : wpM (d + 1) 275 as Q hr hd n = am_In d 2 0 0 (some (.int)) trX12_whoAt as Q hr hd n := rfl
theorem eq276 {d : Nat} {as : List amV} {Q : amQ} {hr : amR} {hd : amD} {n : Nat} : wpM (d + 1) 276 as Q hr hd n = am_In d 11 0 0 (some (.int)) trX12_wayOf as Q hr hd n := rfl
theorem eq277 {d : Nat} {as : List amV} {Q : amQ} {hr : amR} {hd : amD} {n : Nat} : wpM (d + 1) 277 as Q hr hd n = am_In d 4 0 0 (some (.boolean)) trX12_isFree as Q hr hd n := rfl
theorem eq278 {d : Nat} {as : List amV} {Q : amQ} {hr : amR} {hd : amD} {n : Nat} : wpM (d + 1) 278 as Q hr hd n = am_In d 6 0 0 none trX12_givesFrom as Q hr hd n := rfl
theorem eq279 {d : Nat} {as : List amV} {Q : amQ} {hr : amR} {hd : amD} {n : Nat} : wpM (d + 1) 279 as Q hr hd n = am_In d 5 0 0 none trX12_gives as Q hr hd n := rfl
theorem eq280 {d : Nat} {as : List amV} {Q : amQ} {hr : amR} {hd : amD} {n : Nat} : wpM (d + 1) 280 as Q hr hd n = am_In d 2 0 0 none trX12_givesAll as Q hr hd n := rfl
theorem eq281 {d : Nat} {as : List amV} {Q : amQ} {hr : amR} {hd : amD} {n : Nat} : wpM (d + 1) 281 as Q hr hd n = am_In d 2 0 0 (some (.int)) trX12_given as Q hr hd n := rfl
theorem eq282 {d : Nat} {as : List amV} {Q : amQ} {hr : amR} {hd : amD} {n : Nat} : wpM (d + 1) 282 as Q hr hd n = am_In d 3 0 0 (some (.int)) trX12_carry as Q hr hd n := rfl
theorem eq283 {d : Nat} {as : List amV} {Q : amQ} {hr : amR} {hd : amD} {n : Nat} : wpM (d + 1) 283 as Q hr hd n = am_In d 6 0 0 none trX12_moves as Q hr hd n := rfl
theorem eq284 {d : Nat} {as : List amV} {Q : amQ} {hr : amR} {hd : amD} {n : Nat} : wpM (d + 1) 284 as Q hr hd n = am_In d 7 0 0 none trX12_laysMoves as Q hr hd n := rfl
theorem eq285 {d : Nat} {as : List amV} {Q : amQ} {hr : amR} {hd : amD} {n : Nat} : wpM (d + 1) 285 as Q hr hd n = am_In d 9 0 0 (some (.int)) trX12_moves_ as Q hr hd n := rfl
theorem eq286 {d : Nat} {as : List amV} {Q : amQ} {hr : amR} {hd : amD} {n : Nat} : wpM (d + 1) 286 as Q hr hd n = am_In d 6 0 0 (some (.int)) trX12_spread as Q hr hd n := rfl
theorem eq287 {d : Nat} {as : List amV} {Q : amQ} {hr : amR} {hd : amD} {n : Nat} : wpM (d + 1) 287 as Q hr hd n = am_In d 9 0 0 none trX12_hurts as Q hr hd n := rfl
theorem eq288 {d : Nat} {as : List amV} {Q : amQ} {hr : amR} {hd : amD} {n : Nat} : wpM (d + 1) 288 as Q hr hd n = am_In d 4 0 0 (some (.int)) trX12_late as Q hr hd n := rfl
theorem eq289 {d : Nat} {as : List amV} {Q : amQ} {hr : amR} {hd : amD} {n : Nat} : wpM (d + 1) 289 as Q hr hd n = am_In d 4 0 0 (some (.int)) trX12_bears as Q hr hd n := rfl
theorem eq290 {d : Nat} {as : List amV} {Q : amQ} {hr : amR} {hd : amD} {n : Nat} : wpM (d + 1) 290 as Q hr hd n = am_In d 10 0 0 (some (.int)) trX12_dies as Q hr hd n := rfl
theorem eq291 {d : Nat} {as : List amV} {Q : amQ} {hr : amR} {hd : amD} {n : Nat} : wpM (d + 1) 291 as Q hr hd n = am_In d 3 0 0 (some (.int)) trX12_entry as Q hr hd n := rfl
theorem eq292 {d : Nat} {as : List amV} {Q : amQ} {hr : amR} {hd : amD} {n : Nat} : wpM (d + 1) 292 as Q hr hd n = am_In d 1 0 0 (some (.int)) trX12_undo as Q hr hd n := rfl
theorem eq293 {d : Nat} {as : List amV} {Q : amQ} {hr : amR} {hd : amD} {n : Nat} : wpM (d + 1) 293 as Q hr hd n = am_In d 7 0 0 (some (.boolean)) trX12_areTrue as Q hr hd n := rfl
theorem eq294 {d : Nat} {as : List amV} {Q : amQ} {hr : amR} {hd : amD} {n : Nat} : wpM (d + 1) 294 as Q hr hd n = am_In d 4 0 0 (some (.int)) trX12_trueBits as Q hr hd n := rfl
theorem eq295 {d : Nat} {as : List amV} {Q : amQ} {hr : amR} {hd : amD} {n : Nat} : wpM (d + 1) 295 as Q hr hd n = am_In d 7 0 0 (some (.int)) trX12_earth as Q hr hd n := rfl
theorem eq296 {d : Nat} {as : List amV} {Q : amQ} {hr : amR} {hd : amD} {n : Nat} : wpM (d + 1) 296 as Q hr hd n = am_In d 2 0 0 (some (.int)) trX12_lot as Q hr hd n := rfl
theorem eq297 {d : Nat} {as : List amV} {Q : amQ} {hr : amR} {hd : amD} {n : Nat} : wpM (d + 1) 297 as Q hr hd n = am_In d 9 0 0 (some (.int)) trX12_years as Q hr hd n := rfl
theorem eq298 {d : Nat} {as : List amV} {Q : amQ} {hr : amR} {hd : amD} {n : Nat} : wpM (d + 1) 298 as Q hr hd n = am_In d 5 0 0 none trX12_move as Q hr hd n := rfl
theorem eq299 {d : Nat} {as : List amV} {Q : amQ} {hr : amR} {hd : amD} {n : Nat} : wpM (d + 1) 299 as Q hr hd n = am_In d 3 0 0 none trX12_moveAll as Q hr hd n := rfl
theorem eq300 {d : Nat} {as : List amV} {Q : amQ} {hr : amR} {hd : amD} {n : Nat} : wpM (d + 1) 300 as Q hr hd n = am_In d 2 0 0 (some (.boolean)) trX12_image as Q hr hd n := rfl
theorem eq301 {d : Nat} {as : List amV} {Q : amQ} {hr : amR} {hd : amD} {n : Nat} : wpM (d + 1) 301 as Q hr hd n = am_In d 2 0 0 (some (.boolean)) trX12_on as Q hr hd n := rfl
theorem eq302 {d : Nat} {as : List amV} {Q : amQ} {hr : amR} {hd : amD} {n : Nat} : wpM (d + 1) 302 as Q hr hd n = am_In d 2 0 0 (some (.int)) trX12_count as Q hr hd n := rfl
theorem eq303 {d : Nat} {as : List amV} {Q : amQ} {hr : amR} {hd : amD} {n : Nat} : wpM (d + 1) 303 as Q hr hd n = am_In d 1 0 0 (some (.int)) trJ6_bitCount_0f7a4 as Q hr hd n := rfl
theorem eq304 {d : Nat} {as : List amV} {Q : amQ} {hr : amR} {hd : amD} {n : Nat} : wpM (d + 1) 304 as Q hr hd n = am_In d 1 0 0 (some (.int)) trJ0_length_8abf5 as Q hr hd n := rfl
theorem eq305 {d : Nat} {as : List amV} {Q : amQ} {hr : amR} {hd : amD} {n : Nat} : wpM (d + 1) 305 as Q hr hd n = am_In d 2 0 0 (some (.char)) trJ0_charAt_5068e as Q hr hd n := rfl
theorem eq306 {d : Nat} {as : List amV} {Q : amQ} {hr : amR} {hd : amD} {n : Nat} : wpM (d + 1) 306 as Q hr hd n = am_In d 1 0 0 (some (.byte)) trJ0_coder_7d493 as Q hr hd n := rfl
theorem eq307 {d : Nat} {as : List amV} {Q : amQ} {hr : amR} {hd : amD} {n : Nat} : wpM (d + 1) 307 as Q hr hd n = am_In d 1 0 0 (some (.boolean)) trJ0_isLatin1_aae02 as Q hr hd n := rfl
theorem eq308 {d : Nat} {as : List amV} {Q : amQ} {hr : amR} {hd : amD} {n : Nat} : wpM (d + 1) 308 as Q hr hd n = am_In d 2 0 0 none trJ0_checkIndex_df160 as Q hr hd n := rfl
theorem eq309 {d : Nat} {as : List amV} {Q : amQ} {hr : amR} {hd : amD} {n : Nat} : wpM (d + 1) 309 as Q hr hd n = am_In d 2 0 0 (some (.char)) trJ1_charAt_3b067 as Q hr hd n := rfl
theorem eq310 {d : Nat} {as : List amV} {Q : amQ} {hr : amR} {hd : amD} {n : Nat} : wpM (d + 1) 310 as Q hr hd n = am_In d 5 0 0 none trJ7_fill_d0a16 as Q hr hd n := rfl
theorem eq311 {d : Nat} {as : List amV} {Q : amQ} {hr : amR} {hd : amD} {n : Nat} : wpM (d + 1) 311 as Q hr hd n = am_In d 4 0 0 none trJ7_fill_53178 as Q hr hd n := rfl
theorem eq312 {d : Nat} {as : List amV} {Q : amQ} {hr : amR} {hd : amD} {n : Nat} : wpM (d + 1) 312 as Q hr hd n = am_In d 3 0 0 (some (.int)) trJ3_checkIndex_8e157 as Q hr hd n := rfl
def isLand (o : Nat) : Prop := o = 58 ∨ o = 72
theorem ld_s {o : Nat} (h : isLand o) : am_shp o = 104 := by rcases h with rfl | rfl <;> rfl
theorem ld_n {o n : Nat} (h : isLand o) (hn : 159 ≤ n) : o < n := by rcases h with rfl | rfl <;> omega
theorem ld_r0 {o f0 : Nat} {b : Bool} (h : isLand o) : am_R f0 b o 0 = o + 1 := by rcases h with rfl | rfl <;> rfl
theorem ld_h0 {o : Nat} (h : isLand o) : am_shp (o + 1) = 2 ∧ am_slen (o + 1) = 8 := by rcases h with rfl | rfl <;> exact ⟨rfl, rfl⟩
theorem ld_n0 {o n : Nat} (h : isLand o) (hn : 159 ≤ n) : o + 1 < n := by rcases h with rfl | rfl <;> omega
theorem ld_r1 {o f0 : Nat} {b : Bool} (h : isLand o) : am_R f0 b o 1 = o + 2 := by rcases h with rfl | rfl <;> rfl
theorem ld_h1 {o : Nat} (h : isLand o) : am_shp (o + 2) = 1 ∧ am_slen (o + 2) = 8 := by rcases h with rfl | rfl <;> exact ⟨rfl, rfl⟩
theorem ld_n1 {o n : Nat} (h : isLand o) (hn : 159 ≤ n) : o + 2 < n := by rcases h with rfl | rfl <;> omega
theorem ld_r2 {o f0 : Nat} {b : Bool} (h : isLand o) : am_R f0 b o 2 = o + 3 := by rcases h with rfl | rfl <;> rfl
theorem ld_h2 {o : Nat} (h : isLand o) : am_shp (o + 3) = 1 ∧ am_slen (o + 3) = 8 := by rcases h with rfl | rfl <;> exact ⟨rfl, rfl⟩
theorem ld_n2 {o n : Nat} (h : isLand o) (hn : 159 ≤ n) : o + 3 < n := by rcases h with rfl | rfl <;> omega
theorem ld_r3 {o f0 : Nat} {b : Bool} (h : isLand o) : am_R f0 b o 3 = o + 4 := by rcases h with rfl | rfl <;> rfl
theorem ld_h3 {o : Nat} (h : isLand o) : am_shp (o + 4) = 2 ∧ am_slen (o + 4) = 4 := by rcases h with rfl | rfl <;> exact ⟨rfl, rfl⟩
theorem ld_n3 {o n : Nat} (h : isLand o) (hn : 159 ≤ n) : o + 4 < n := by rcases h with rfl | rfl <;> omega
theorem ld_r4 {o f0 : Nat} {b : Bool} (h : isLand o) : am_R f0 b o 4 = o + 5 := by rcases h with rfl | rfl <;> rfl
theorem ld_h4 {o : Nat} (h : isLand o) : am_shp (o + 5) = 1 ∧ am_slen (o + 5) = 4 := by rcases h with rfl | rfl <;> exact ⟨rfl, rfl⟩
theorem ld_n4 {o n : Nat} (h : isLand o) (hn : 159 ≤ n) : o + 5 < n := by rcases h with rfl | rfl <;> omega
theorem ld_r5 {o f0 : Nat} {b : Bool} (h : isLand o) : am_R f0 b o 5 = o + 6 := by rcases h with rfl | rfl <;> rfl
theorem ld_h5 {o : Nat} (h : isLand o) : am_shp (o + 6) = 1 ∧ am_slen (o + 6) = 12 := by rcases h with rfl | rfl <;> exact ⟨rfl, rfl⟩
theorem ld_n5 {o n : Nat} (h : isLand o) (hn : 159 ≤ n) : o + 6 < n := by rcases h with rfl | rfl <;> omega
theorem ld_r6 {o f0 : Nat} {b : Bool} (h : isLand o) : am_R f0 b o 6 = o + 7 := by rcases h with rfl | rfl <;> rfl
theorem ld_h6 {o : Nat} (h : isLand o) : am_shp (o + 7) = 1 ∧ am_slen (o + 7) = 12 := by rcases h with rfl | rfl <;> exact ⟨rfl, rfl⟩
theorem ld_n6 {o n : Nat} (h : isLand o) (hn : 159 ≤ n) : o + 7 < n := by rcases h with rfl | rfl <;> omega
theorem ld_r7 {o f0 : Nat} {b : Bool} (h : isLand o) : am_R f0 b o 7 = o + 8 := by rcases h with rfl | rfl <;> rfl
theorem ld_h7 {o : Nat} (h : isLand o) : am_shp (o + 8) = 1 ∧ am_slen (o + 8) = 12 := by rcases h with rfl | rfl <;> exact ⟨rfl, rfl⟩
theorem ld_n7 {o n : Nat} (h : isLand o) (hn : 159 ≤ n) : o + 8 < n := by rcases h with rfl | rfl <;> omega
theorem ld_r8 {o f0 : Nat} {b : Bool} (h : isLand o) : am_R f0 b o 8 = o + 9 := by rcases h with rfl | rfl <;> rfl
theorem ld_h8 {o : Nat} (h : isLand o) : am_shp (o + 9) = 1 ∧ am_slen (o + 9) = 12 := by rcases h with rfl | rfl <;> exact ⟨rfl, rfl⟩
theorem ld_n8 {o n : Nat} (h : isLand o) (hn : 159 ≤ n) : o + 9 < n := by rcases h with rfl | rfl <;> omega
theorem ld_r9 {o f0 : Nat} {b : Bool} (h : isLand o) : am_R f0 b o 9 = o + 10 := by rcases h with rfl | rfl <;> rfl
theorem ld_h9 {o : Nat} (h : isLand o) : am_shp (o + 10) = 1 ∧ am_slen (o + 10) = 12 := by rcases h with rfl | rfl <;> exact ⟨rfl, rfl⟩
theorem ld_n9 {o n : Nat} (h : isLand o) (hn : 159 ≤ n) : o + 10 < n := by rcases h with rfl | rfl <;> omega
theorem ld_r10 {o f0 : Nat} {b : Bool} (h : isLand o) : am_R f0 b o 10 = o + 11 := by rcases h with rfl | rfl <;> rfl
theorem ld_h10 {o : Nat} (h : isLand o) : am_shp (o + 11) = 1 ∧ am_slen (o + 11) = 12 := by rcases h with rfl | rfl <;> exact ⟨rfl, rfl⟩
theorem ld_n10 {o n : Nat} (h : isLand o) (hn : 159 ≤ n) : o + 11 < n := by rcases h with rfl | rfl <;> omega
theorem ld_r11 {o f0 : Nat} {b : Bool} (h : isLand o) : am_R f0 b o 11 = o + 12 := by rcases h with rfl | rfl <;> rfl
theorem ld_h11 {o : Nat} (h : isLand o) : am_shp (o + 12) = 1 ∧ am_slen (o + 12) = 12 := by rcases h with rfl | rfl <;> exact ⟨rfl, rfl⟩
theorem ld_n11 {o n : Nat} (h : isLand o) (hn : 159 ≤ n) : o + 12 < n := by rcases h with rfl | rfl <;> omega
theorem ld_r12 {o f0 : Nat} {b : Bool} (h : isLand o) : am_R f0 b o 12 = o + 13 := by rcases h with rfl | rfl <;> rfl
theorem ld_h12 {o : Nat} (h : isLand o) : am_shp (o + 13) = 1 ∧ am_slen (o + 13) = 12 := by rcases h with rfl | rfl <;> exact ⟨rfl, rfl⟩
theorem ld_n12 {o n : Nat} (h : isLand o) (hn : 159 ≤ n) : o + 13 < n := by rcases h with rfl | rfl <;> omega
def isHold (o : Nat) : Prop := o = 21 ∨ o = 86 ∨ o = 90 ∨ o = 94
theorem ho_s {o : Nat} (h : isHold o) : am_shp o = 103 := by rcases h with rfl | rfl | rfl | rfl <;> rfl
theorem ho_n {o n : Nat} (h : isHold o) (hn : 159 ≤ n) : o < n := by rcases h with rfl | rfl | rfl | rfl <;> omega
theorem ho_r0 {o f0 : Nat} {b : Bool} (h : isHold o) : am_R f0 b o 0 = o + 1 := by rcases h with rfl | rfl | rfl | rfl <;> rfl
theorem ho_h0 {o : Nat} (h : isHold o) : am_shp (o + 1) = 1 ∧ am_slen (o + 1) = 12 := by rcases h with rfl | rfl | rfl | rfl <;> exact ⟨rfl, rfl⟩
theorem ho_n0 {o n : Nat} (h : isHold o) (hn : 159 ≤ n) : o + 1 < n := by rcases h with rfl | rfl | rfl | rfl <;> omega
theorem ho_r1 {o f0 : Nat} {b : Bool} (h : isHold o) : am_R f0 b o 1 = o + 2 := by rcases h with rfl | rfl | rfl | rfl <;> rfl
theorem ho_h1 {o : Nat} (h : isHold o) : am_shp (o + 2) = 1 ∧ am_slen (o + 2) = 96 := by rcases h with rfl | rfl | rfl | rfl <;> exact ⟨rfl, rfl⟩
theorem ho_n1 {o n : Nat} (h : isHold o) (hn : 159 ≤ n) : o + 2 < n := by rcases h with rfl | rfl | rfl | rfl <;> omega
theorem ho_r2 {o f0 : Nat} {b : Bool} (h : isHold o) : am_R f0 b o 2 = o + 3 := by rcases h with rfl | rfl | rfl | rfl <;> rfl
theorem ho_h2 {o : Nat} (h : isHold o) : am_shp (o + 3) = 1 ∧ am_slen (o + 3) = 96 := by rcases h with rfl | rfl | rfl | rfl <;> exact ⟨rfl, rfl⟩
theorem ho_n2 {o n : Nat} (h : isHold o) (hn : 159 ≤ n) : o + 3 < n := by rcases h with rfl | rfl | rfl | rfl <;> omega
theorem z_X3_depthOf {d o f0 : Nat} {b : Bool} {j : Int} {Q : amQ} {hd : amD} {n : Nat} (hd9 : 2 ≤ d) (ho : isHold o) (hn : 159 ≤ n) (h : Q (some (vI (if 0 ≤ j ∧ j < 12 then hd (o + 1) j.toNat else 0))) (am_R f0 b) hd n) : wpM d 42 [vR o, vI j] Q (am_R f0 b) hd n := by
  obtain ⟨e, rfl, he⟩ := am_dep hd9
  apply en42
  simp only [trX3_depthOf, am_In, am_lay, am_pad, wp, wpL, wpO, wpI, wpJ, wpRet, am_ild, am_ald, am_lld, am_ist, am_ast, am_lst, am_iinc, am_st1, am_st2, am_kill, am_get, am_isI, am_isL, am_isR, am_lab, am_c1, am_c2, am_cn, am_bin, am_lbin, am_un, am_div, am_ldiv, am_lsh, am_i2l, am_l2i, am_lcmpQ, am_dup, am_dup2, am_pop, am_cat, am_cats, am_alen, am_len, am_iald, am_bald, am_lald, am_aald, am_iast, am_bast, am_last, am_aast, am_getf, am_putf, am_rd, am_rty, am_rok, am_b, am_call, am_recv, am_push, am_prim, am_acopy, List.length_cons, List.length_nil, List.take, List.drop, List.reverse_cons, List.reverse_nil, List.nil_append, List.cons_append, ho_s ho, ho_r0 ho]
  simp [ho_n ho hn]
  refine x_at (by omega) (ho_h0 ho).1 (ho_n0 ho hn) ?_
  rw [(ho_h0 ho).2]
  simpa using h
theorem z_X4_placeOf {d o f0 : Nat} {b : Bool} {j : Int} {Q : amQ} {hd : amD} {n : Nat} (hd9 : 2 ≤ d) (ho : isLand o) (hn : 159 ≤ n) (h : Q (some (vI (if 0 ≤ j ∧ j < 8 then hd (o + 2) j.toNat else 0))) (am_R f0 b) hd n) : wpM d 80 [vR o, vI j] Q (am_R f0 b) hd n := by
  obtain ⟨e, rfl, he⟩ := am_dep hd9
  apply en80
  simp only [trX4_placeOf, am_In, am_lay, am_pad, wp, wpL, wpO, wpI, wpJ, wpRet, am_ild, am_ald, am_lld, am_ist, am_ast, am_lst, am_iinc, am_st1, am_st2, am_kill, am_get, am_isI, am_isL, am_isR, am_lab, am_c1, am_c2, am_cn, am_bin, am_lbin, am_un, am_div, am_ldiv, am_lsh, am_i2l, am_l2i, am_lcmpQ, am_dup, am_dup2, am_pop, am_cat, am_cats, am_alen, am_len, am_iald, am_bald, am_lald, am_aald, am_iast, am_bast, am_last, am_aast, am_getf, am_putf, am_rd, am_rty, am_rok, am_b, am_call, am_recv, am_push, am_prim, am_acopy, List.length_cons, List.length_nil, List.take, List.drop, List.reverse_cons, List.reverse_nil, List.nil_append, List.cons_append, ld_s ho, ld_r1 ho]
  simp [ld_n ho hn]
  refine x_at (by omega) (ld_h1 ho).1 (ld_n1 ho hn) ?_
  rw [(ld_h1 ho).2]
  simpa using h
theorem z_X4_heirOf {d o f0 : Nat} {b : Bool} {j : Int} {Q : amQ} {hd : amD} {n : Nat} (hd9 : 2 ≤ d) (ho : isLand o) (hn : 159 ≤ n) (h : Q (some (vI (if 0 ≤ j ∧ j < 8 then hd (o + 3) j.toNat else 0))) (am_R f0 b) hd n) : wpM d 81 [vR o, vI j] Q (am_R f0 b) hd n := by
  obtain ⟨e, rfl, he⟩ := am_dep hd9
  apply en81
  simp only [trX4_heirOf, am_In, am_lay, am_pad, wp, wpL, wpO, wpI, wpJ, wpRet, am_ild, am_ald, am_lld, am_ist, am_ast, am_lst, am_iinc, am_st1, am_st2, am_kill, am_get, am_isI, am_isL, am_isR, am_lab, am_c1, am_c2, am_cn, am_bin, am_lbin, am_un, am_div, am_ldiv, am_lsh, am_i2l, am_l2i, am_lcmpQ, am_dup, am_dup2, am_pop, am_cat, am_cats, am_alen, am_len, am_iald, am_bald, am_lald, am_aald, am_iast, am_bast, am_last, am_aast, am_getf, am_putf, am_rd, am_rty, am_rok, am_b, am_call, am_recv, am_push, am_prim, am_acopy, List.length_cons, List.length_nil, List.take, List.drop, List.reverse_cons, List.reverse_nil, List.nil_append, List.cons_append, ld_s ho, ld_r2 ho]
  simp [ld_n ho hn]
  refine x_at (by omega) (ld_h2 ho).1 (ld_n2 ho hn) ?_
  rw [(ld_h2 ho).2]
  simpa using h
theorem z_X4_worthOf {d o f0 : Nat} {b : Bool} {j : Int} {Q : amQ} {hd : amD} {n : Nat} (hd9 : 2 ≤ d) (ho : isLand o) (hn : 159 ≤ n) (h : Q (some (vI (if 0 ≤ j ∧ j < 4 then hd (o + 5) j.toNat else 0))) (am_R f0 b) hd n) : wpM d 82 [vR o, vI j] Q (am_R f0 b) hd n := by
  obtain ⟨e, rfl, he⟩ := am_dep hd9
  apply en82
  simp only [trX4_worthOf, am_In, am_lay, am_pad, wp, wpL, wpO, wpI, wpJ, wpRet, am_ild, am_ald, am_lld, am_ist, am_ast, am_lst, am_iinc, am_st1, am_st2, am_kill, am_get, am_isI, am_isL, am_isR, am_lab, am_c1, am_c2, am_cn, am_bin, am_lbin, am_un, am_div, am_ldiv, am_lsh, am_i2l, am_l2i, am_lcmpQ, am_dup, am_dup2, am_pop, am_cat, am_cats, am_alen, am_len, am_iald, am_bald, am_lald, am_aald, am_iast, am_bast, am_last, am_aast, am_getf, am_putf, am_rd, am_rty, am_rok, am_b, am_call, am_recv, am_push, am_prim, am_acopy, List.length_cons, List.length_nil, List.take, List.drop, List.reverse_cons, List.reverse_nil, List.nil_append, List.cons_append, ld_s ho, ld_r4 ho]
  simp [ld_n ho hn]
  refine x_at (by omega) (ld_h4 ho).1 (ld_n4 ho hn) ?_
  rw [(ld_h4 ho).2]
  simpa using h
theorem z_X4_sortOfThing {d o f0 : Nat} {b : Bool} {j : Int} {Q : amQ} {hd : amD} {n : Nat} (hd9 : 2 ≤ d) (ho : isLand o) (hn : 159 ≤ n) (h : Q (some (vI (if 0 ≤ j ∧ j < 12 then hd (o + 6) j.toNat else 0))) (am_R f0 b) hd n) : wpM d 83 [vR o, vI j] Q (am_R f0 b) hd n := by
  obtain ⟨e, rfl, he⟩ := am_dep hd9
  apply en83
  simp only [trX4_sortOfThing, am_In, am_lay, am_pad, wp, wpL, wpO, wpI, wpJ, wpRet, am_ild, am_ald, am_lld, am_ist, am_ast, am_lst, am_iinc, am_st1, am_st2, am_kill, am_get, am_isI, am_isL, am_isR, am_lab, am_c1, am_c2, am_cn, am_bin, am_lbin, am_un, am_div, am_ldiv, am_lsh, am_i2l, am_l2i, am_lcmpQ, am_dup, am_dup2, am_pop, am_cat, am_cats, am_alen, am_len, am_iald, am_bald, am_lald, am_aald, am_iast, am_bast, am_last, am_aast, am_getf, am_putf, am_rd, am_rty, am_rok, am_b, am_call, am_recv, am_push, am_prim, am_acopy, List.length_cons, List.length_nil, List.take, List.drop, List.reverse_cons, List.reverse_nil, List.nil_append, List.cons_append, ld_s ho, ld_r5 ho]
  simp [ld_n ho hn]
  refine x_at (by omega) (ld_h5 ho).1 (ld_n5 ho hn) ?_
  rw [(ld_h5 ho).2]
  simpa using h
theorem z_X4_ownerOf {d o f0 : Nat} {b : Bool} {j : Int} {Q : amQ} {hd : amD} {n : Nat} (hd9 : 2 ≤ d) (ho : isLand o) (hn : 159 ≤ n) (h : Q (some (vI (if 0 ≤ j ∧ j < 12 then hd (o + 7) j.toNat else 0))) (am_R f0 b) hd n) : wpM d 84 [vR o, vI j] Q (am_R f0 b) hd n := by
  obtain ⟨e, rfl, he⟩ := am_dep hd9
  apply en84
  simp only [trX4_ownerOf, am_In, am_lay, am_pad, wp, wpL, wpO, wpI, wpJ, wpRet, am_ild, am_ald, am_lld, am_ist, am_ast, am_lst, am_iinc, am_st1, am_st2, am_kill, am_get, am_isI, am_isL, am_isR, am_lab, am_c1, am_c2, am_cn, am_bin, am_lbin, am_un, am_div, am_ldiv, am_lsh, am_i2l, am_l2i, am_lcmpQ, am_dup, am_dup2, am_pop, am_cat, am_cats, am_alen, am_len, am_iald, am_bald, am_lald, am_aald, am_iast, am_bast, am_last, am_aast, am_getf, am_putf, am_rd, am_rty, am_rok, am_b, am_call, am_recv, am_push, am_prim, am_acopy, List.length_cons, List.length_nil, List.take, List.drop, List.reverse_cons, List.reverse_nil, List.nil_append, List.cons_append, ld_s ho, ld_r6 ho]
  simp [ld_n ho hn]
  refine x_at (by omega) (ld_h6 ho).1 (ld_n6 ho hn) ?_
  rw [(ld_h6 ho).2]
  simpa using h
theorem z_X4_whoWants {d o f0 : Nat} {b : Bool} {j : Int} {Q : amQ} {hd : amD} {n : Nat} (hd9 : 2 ≤ d) (ho : isLand o) (hn : 159 ≤ n) (h : Q (some (vI (if 0 ≤ j ∧ j < 12 then hd (o + 8) j.toNat else 0))) (am_R f0 b) hd n) : wpM d 86 [vR o, vI j] Q (am_R f0 b) hd n := by
  obtain ⟨e, rfl, he⟩ := am_dep hd9
  apply en86
  simp only [trX4_whoWants, am_In, am_lay, am_pad, wp, wpL, wpO, wpI, wpJ, wpRet, am_ild, am_ald, am_lld, am_ist, am_ast, am_lst, am_iinc, am_st1, am_st2, am_kill, am_get, am_isI, am_isL, am_isR, am_lab, am_c1, am_c2, am_cn, am_bin, am_lbin, am_un, am_div, am_ldiv, am_lsh, am_i2l, am_l2i, am_lcmpQ, am_dup, am_dup2, am_pop, am_cat, am_cats, am_alen, am_len, am_iald, am_bald, am_lald, am_aald, am_iast, am_bast, am_last, am_aast, am_getf, am_putf, am_rd, am_rty, am_rok, am_b, am_call, am_recv, am_push, am_prim, am_acopy, List.length_cons, List.length_nil, List.take, List.drop, List.reverse_cons, List.reverse_nil, List.nil_append, List.cons_append, ld_s ho, ld_r7 ho]
  simp [ld_n ho hn]
  refine x_at (by omega) (ld_h7 ho).1 (ld_n7 ho hn) ?_
  rw [(ld_h7 ho).2]
  simpa using h
theorem z_X4_sortOfWant {d o f0 : Nat} {b : Bool} {j : Int} {Q : amQ} {hd : amD} {n : Nat} (hd9 : 2 ≤ d) (ho : isLand o) (hn : 159 ≤ n) (h : Q (some (vI (if 0 ≤ j ∧ j < 12 then hd (o + 9) j.toNat else 0))) (am_R f0 b) hd n) : wpM d 88 [vR o, vI j] Q (am_R f0 b) hd n := by
  obtain ⟨e, rfl, he⟩ := am_dep hd9
  apply en88
  simp only [trX4_sortOfWant, am_In, am_lay, am_pad, wp, wpL, wpO, wpI, wpJ, wpRet, am_ild, am_ald, am_lld, am_ist, am_ast, am_lst, am_iinc, am_st1, am_st2, am_kill, am_get, am_isI, am_isL, am_isR, am_lab, am_c1, am_c2, am_cn, am_bin, am_lbin, am_un, am_div, am_ldiv, am_lsh, am_i2l, am_l2i, am_lcmpQ, am_dup, am_dup2, am_pop, am_cat, am_cats, am_alen, am_len, am_iald, am_bald, am_lald, am_aald, am_iast, am_bast, am_last, am_aast, am_getf, am_putf, am_rd, am_rty, am_rok, am_b, am_call, am_recv, am_push, am_prim, am_acopy, List.length_cons, List.length_nil, List.take, List.drop, List.reverse_cons, List.reverse_nil, List.nil_append, List.cons_append, ld_s ho, ld_r8 ho]
  simp [ld_n ho hn]
  refine x_at (by omega) (ld_h8 ho).1 (ld_n8 ho hn) ?_
  rw [(ld_h8 ho).2]
  simpa using h
theorem z_X4_fromOf {d o f0 : Nat} {b : Bool} {j : Int} {Q : amQ} {hd : amD} {n : Nat} (hd9 : 2 ≤ d) (ho : isLand o) (hn : 159 ≤ n) (h : Q (some (vI (if 0 ≤ j ∧ j < 12 then hd (o + 10) j.toNat else 0))) (am_R f0 b) hd n) : wpM d 89 [vR o, vI j] Q (am_R f0 b) hd n := by
  obtain ⟨e, rfl, he⟩ := am_dep hd9
  apply en89
  simp only [trX4_fromOf, am_In, am_lay, am_pad, wp, wpL, wpO, wpI, wpJ, wpRet, am_ild, am_ald, am_lld, am_ist, am_ast, am_lst, am_iinc, am_st1, am_st2, am_kill, am_get, am_isI, am_isL, am_isR, am_lab, am_c1, am_c2, am_cn, am_bin, am_lbin, am_un, am_div, am_ldiv, am_lsh, am_i2l, am_l2i, am_lcmpQ, am_dup, am_dup2, am_pop, am_cat, am_cats, am_alen, am_len, am_iald, am_bald, am_lald, am_aald, am_iast, am_bast, am_last, am_aast, am_getf, am_putf, am_rd, am_rty, am_rok, am_b, am_call, am_recv, am_push, am_prim, am_acopy, List.length_cons, List.length_nil, List.take, List.drop, List.reverse_cons, List.reverse_nil, List.nil_append, List.cons_append, ld_s ho, ld_r9 ho]
  simp [ld_n ho hn]
  refine x_at (by omega) (ld_h9 ho).1 (ld_n9 ho hn) ?_
  rw [(ld_h9 ho).2]
  simpa using h
theorem z_X4_tillOf {d o f0 : Nat} {b : Bool} {j : Int} {Q : amQ} {hd : amD} {n : Nat} (hd9 : 2 ≤ d) (ho : isLand o) (hn : 159 ≤ n) (h : Q (some (vI (if 0 ≤ j ∧ j < 12 then hd (o + 11) j.toNat else 0))) (am_R f0 b) hd n) : wpM d 90 [vR o, vI j] Q (am_R f0 b) hd n := by
  obtain ⟨e, rfl, he⟩ := am_dep hd9
  apply en90
  simp only [trX4_tillOf, am_In, am_lay, am_pad, wp, wpL, wpO, wpI, wpJ, wpRet, am_ild, am_ald, am_lld, am_ist, am_ast, am_lst, am_iinc, am_st1, am_st2, am_kill, am_get, am_isI, am_isL, am_isR, am_lab, am_c1, am_c2, am_cn, am_bin, am_lbin, am_un, am_div, am_ldiv, am_lsh, am_i2l, am_l2i, am_lcmpQ, am_dup, am_dup2, am_pop, am_cat, am_cats, am_alen, am_len, am_iald, am_bald, am_lald, am_aald, am_iast, am_bast, am_last, am_aast, am_getf, am_putf, am_rd, am_rty, am_rok, am_b, am_call, am_recv, am_push, am_prim, am_acopy, List.length_cons, List.length_nil, List.take, List.drop, List.reverse_cons, List.reverse_nil, List.nil_append, List.cons_append, ld_s ho, ld_r10 ho]
  simp [ld_n ho hn]
  refine x_at (by omega) (ld_h10 ho).1 (ld_n10 ho hn) ?_
  rw [(ld_h10 ho).2]
  simpa using h
theorem z_X4_weightOf {d o f0 : Nat} {b : Bool} {j : Int} {Q : amQ} {hd : amD} {n : Nat} (hd9 : 2 ≤ d) (ho : isLand o) (hn : 159 ≤ n) (h : Q (some (vI (if 0 ≤ j ∧ j < 12 then hd (o + 12) j.toNat else 0))) (am_R f0 b) hd n) : wpM d 91 [vR o, vI j] Q (am_R f0 b) hd n := by
  obtain ⟨e, rfl, he⟩ := am_dep hd9
  apply en91
  simp only [trX4_weightOf, am_In, am_lay, am_pad, wp, wpL, wpO, wpI, wpJ, wpRet, am_ild, am_ald, am_lld, am_ist, am_ast, am_lst, am_iinc, am_st1, am_st2, am_kill, am_get, am_isI, am_isL, am_isR, am_lab, am_c1, am_c2, am_cn, am_bin, am_lbin, am_un, am_div, am_ldiv, am_lsh, am_i2l, am_l2i, am_lcmpQ, am_dup, am_dup2, am_pop, am_cat, am_cats, am_alen, am_len, am_iald, am_bald, am_lald, am_aald, am_iast, am_bast, am_last, am_aast, am_getf, am_putf, am_rd, am_rty, am_rok, am_b, am_call, am_recv, am_push, am_prim, am_acopy, List.length_cons, List.length_nil, List.take, List.drop, List.reverse_cons, List.reverse_nil, List.nil_append, List.cons_append, ld_s ho, ld_r11 ho]
  simp [ld_n ho hn]
  refine x_at (by omega) (ld_h11 ho).1 (ld_n11 ho hn) ?_
  rw [(ld_h11 ho).2]
  simpa using h
theorem z_X4_byFirstDay {d o f0 : Nat} {b : Bool} {j : Int} {Q : amQ} {hd : amD} {n : Nat} (hd9 : 2 ≤ d) (ho : isLand o) (hn : 159 ≤ n) (h : Q (some (vI (if 0 ≤ j ∧ j < 12 then hd (o + 13) j.toNat else 0))) (am_R f0 b) hd n) : wpM d 92 [vR o, vI j] Q (am_R f0 b) hd n := by
  obtain ⟨e, rfl, he⟩ := am_dep hd9
  apply en92
  simp only [trX4_byFirstDay, am_In, am_lay, am_pad, wp, wpL, wpO, wpI, wpJ, wpRet, am_ild, am_ald, am_lld, am_ist, am_ast, am_lst, am_iinc, am_st1, am_st2, am_kill, am_get, am_isI, am_isL, am_isR, am_lab, am_c1, am_c2, am_cn, am_bin, am_lbin, am_un, am_div, am_ldiv, am_lsh, am_i2l, am_l2i, am_lcmpQ, am_dup, am_dup2, am_pop, am_cat, am_cats, am_alen, am_len, am_iald, am_bald, am_lald, am_aald, am_iast, am_bast, am_last, am_aast, am_getf, am_putf, am_rd, am_rty, am_rok, am_b, am_call, am_recv, am_push, am_prim, am_acopy, List.length_cons, List.length_nil, List.take, List.drop, List.reverse_cons, List.reverse_nil, List.nil_append, List.cons_append, ld_s ho, ld_r12 ho]
  simp [ld_n ho hn]
  refine x_at (by omega) (ld_h12 ho).1 (ld_n12 ho hn) ?_
  rw [(ld_h12 ho).2]
  simpa using h
