/-! the tables' words stand in the claim's: each by its place (written by program) -/
theorem am_tb1 {w : Cond} {i : Nat} (h : tables_1_1[i]? = some w) : w ∈ lw_tbl := by
  have h := List.mem_of_getElem? h
  exact List.mem_append_right _ (show w ∈ tables_1 from List.mem_append_left _ h)
theorem am_tb2 {w : Cond} {i : Nat} (h : tables_1_2[i]? = some w) : w ∈ lw_tbl := by
  have h := List.mem_of_getElem? h
  exact List.mem_append_right _ (show w ∈ tables_1 from List.mem_append_right _ (List.mem_append_left _ h))
theorem am_tb3 {w : Cond} {i : Nat} (h : tables_1_3[i]? = some w) : w ∈ lw_tbl := by
  have h := List.mem_of_getElem? h
  exact List.mem_append_right _ (show w ∈ tables_1 from List.mem_append_right _ (List.mem_append_right _ (List.mem_append_left _ h)))
theorem am_tb4 {w : Cond} {i : Nat} (h : tables_1_4[i]? = some w) : w ∈ lw_tbl := by
  have h := List.mem_of_getElem? h
  exact List.mem_append_right _ (show w ∈ tables_1 from List.mem_append_right _ (List.mem_append_right _ (List.mem_append_right _ (List.mem_append_left _ h))))
theorem am_tb5 {w : Cond} {i : Nat} (h : tables_1_5[i]? = some w) : w ∈ lw_tbl := by
  have h := List.mem_of_getElem? h
  exact List.mem_append_right _ (show w ∈ tables_1 from List.mem_append_right _ (List.mem_append_right _ (List.mem_append_right _ (List.mem_append_right _ (List.mem_append_left _ h)))))
theorem am_tb6 {w : Cond} {i : Nat} (h : tables_1_6[i]? = some w) : w ∈ lw_tbl := by
  have h := List.mem_of_getElem? h
  exact List.mem_append_right _ (show w ∈ tables_1 from List.mem_append_right _ (List.mem_append_right _ (List.mem_append_right _ (List.mem_append_right _ (List.mem_append_right _ (List.mem_append_left _ h))))))
theorem am_tb7 {w : Cond} {i : Nat} (h : tables_1_7[i]? = some w) : w ∈ lw_tbl := by
  have h := List.mem_of_getElem? h
  exact List.mem_append_right _ (show w ∈ tables_1 from List.mem_append_right _ (List.mem_append_right _ (List.mem_append_right _ (List.mem_append_right _ (List.mem_append_right _ (List.mem_append_right _ (List.mem_append_left _ h)))))))
theorem am_tb8 {w : Cond} {i : Nat} (h : tables_1_8[i]? = some w) : w ∈ lw_tbl := by
  have h := List.mem_of_getElem? h
  exact List.mem_append_right _ (show w ∈ tables_1 from List.mem_append_right _ (List.mem_append_right _ (List.mem_append_right _ (List.mem_append_right _ (List.mem_append_right _ (List.mem_append_right _ (List.mem_append_right _ (List.mem_append_left _ h))))))))
theorem am_tb9 {w : Cond} {i : Nat} (h : tables_1_9[i]? = some w) : w ∈ lw_tbl := by
  have h := List.mem_of_getElem? h
  exact List.mem_append_right _ (show w ∈ tables_1 from List.mem_append_right _ (List.mem_append_right _ (List.mem_append_right _ (List.mem_append_right _ (List.mem_append_right _ (List.mem_append_right _ (List.mem_append_right _ (List.mem_append_right _ (h)))))))))
theorem am_tp1 {q : MethodName × Nat} {i : Nat} (h : lw_privs_1[i]? = some q) : Cond.selects q.1.cls q.1 q.1 ∈ lw_tbl := by
  have h := List.mem_of_getElem? h
  exact List.mem_append_left _ (List.mem_map.mpr ⟨q, (show q ∈ lw_privs from List.mem_append_left _ h), rfl⟩)
theorem am_tp2 {q : MethodName × Nat} {i : Nat} (h : lw_privs_2[i]? = some q) : Cond.selects q.1.cls q.1 q.1 ∈ lw_tbl := by
  have h := List.mem_of_getElem? h
  exact List.mem_append_left _ (List.mem_map.mpr ⟨q, (show q ∈ lw_privs from List.mem_append_right _ (List.mem_append_left _ h)), rfl⟩)
theorem am_tp3 {q : MethodName × Nat} {i : Nat} (h : lw_privs_3[i]? = some q) : Cond.selects q.1.cls q.1 q.1 ∈ lw_tbl := by
  have h := List.mem_of_getElem? h
  exact List.mem_append_left _ (List.mem_map.mpr ⟨q, (show q ∈ lw_privs from List.mem_append_right _ (List.mem_append_right _ (List.mem_append_left _ h))), rfl⟩)
theorem am_tp4 {q : MethodName × Nat} {i : Nat} (h : lw_privs_4[i]? = some q) : Cond.selects q.1.cls q.1 q.1 ∈ lw_tbl := by
  have h := List.mem_of_getElem? h
  exact List.mem_append_left _ (List.mem_map.mpr ⟨q, (show q ∈ lw_privs from List.mem_append_right _ (List.mem_append_right _ (List.mem_append_right _ (List.mem_append_left _ h)))), rfl⟩)
theorem am_tp5 {q : MethodName × Nat} {i : Nat} (h : lw_privs_5[i]? = some q) : Cond.selects q.1.cls q.1 q.1 ∈ lw_tbl := by
  have h := List.mem_of_getElem? h
  exact List.mem_append_left _ (List.mem_map.mpr ⟨q, (show q ∈ lw_privs from List.mem_append_right _ (List.mem_append_right _ (List.mem_append_right _ (List.mem_append_right _ (List.mem_append_left _ h))))), rfl⟩)
theorem am_tp6 {q : MethodName × Nat} {i : Nat} (h : lw_privs_6[i]? = some q) : Cond.selects q.1.cls q.1 q.1 ∈ lw_tbl := by
  have h := List.mem_of_getElem? h
  exact List.mem_append_left _ (List.mem_map.mpr ⟨q, (show q ∈ lw_privs from List.mem_append_right _ (List.mem_append_right _ (List.mem_append_right _ (List.mem_append_right _ (List.mem_append_right _ (List.mem_append_left _ h)))))), rfl⟩)
theorem am_tp7 {q : MethodName × Nat} {i : Nat} (h : lw_privs_7[i]? = some q) : Cond.selects q.1.cls q.1 q.1 ∈ lw_tbl := by
  have h := List.mem_of_getElem? h
  exact List.mem_append_left _ (List.mem_map.mpr ⟨q, (show q ∈ lw_privs from List.mem_append_right _ (List.mem_append_right _ (List.mem_append_right _ (List.mem_append_right _ (List.mem_append_right _ (List.mem_append_right _ (h))))))), rfl⟩)
theorem am_k1 : Cond.fieldLink RX11 10 "OnlyLent" "text" "LOnlyLent$Text;" ∈ lw_tbl := am_tb2 (i := 120) rfl
theorem am_k2 : Cond.fieldLink RX11 21 "OnlyLent" "reader" "LOnlyLent$Reader;" ∈ lw_tbl := am_tb2 (i := 121) rfl
theorem am_k3 : Cond.fieldLink RX11 28 "OnlyLent" "now" "LOnlyLent$Holdings;" ∈ lw_tbl := am_tb2 (i := 122) rfl
theorem am_k4 : Cond.fieldLink RX11 32 "OnlyLent" "images" "[LOnlyLent$Holdings;" ∈ lw_tbl := am_tb2 (i := 123) rfl
theorem am_k5 : Cond.fieldLink RX11 39 "OnlyLent" "choice" "LOnlyLent$Choice;" ∈ lw_tbl := am_tb2 (i := 124) rfl
theorem am_k6 : Cond.fieldLink RX11 48 "OnlyLent" "plan" "LOnlyLent$Plan;" ∈ lw_tbl := am_tb2 (i := 125) rfl
theorem am_k7 : Cond.fieldLink RX11 55 "OnlyLent" "lateness" "LOnlyLent$Lateness;" ∈ lw_tbl := am_tb2 (i := 126) rfl
theorem am_k8 : Cond.fieldLink RX11 62 "OnlyLent" "book" "LOnlyLent$Book;" ∈ lw_tbl := am_tb2 (i := 127) rfl
theorem am_k9 : Cond.fieldLink RX11 66 "OnlyLent" "refused" "[I" ∈ lw_tbl := am_tb2 (i := 128) rfl
theorem am_k10 : Cond.fieldLink RX11 73 "OnlyLent" "told" "LOnlyLent$Land;" ∈ lw_tbl := am_tb2 (i := 129) rfl
theorem am_k11 : Cond.fieldLink RX11 77 "OnlyLent" "spare" "LOnlyLent$Land;" ∈ lw_tbl := am_tb2 (i := 130) rfl
theorem am_k12 : Cond.fieldLink RX11 80 "OnlyLent" "hasLand" "Z" ∈ lw_tbl := am_tb2 (i := 131) rfl
theorem am_k13 : Cond.fieldLink RX0 9 "OnlyLent$Book" "givers" "[I" ∈ lw_tbl := am_tb2 (i := 31) rfl
theorem am_k14 : Cond.fieldLink RX0 15 "OnlyLent$Book" "takers" "[I" ∈ lw_tbl := am_tb2 (i := 32) rfl
theorem am_k15 : Cond.fieldLink RX0 18 "OnlyLent$Book" "row" "[I" ∈ lw_tbl := am_tb2 (i := 33) rfl
theorem am_k16 : Cond.fieldLink RX0 21 "OnlyLent$Book" "size" "I" ∈ lw_tbl := am_tb2 (i := 34) rfl
theorem am_k17 : Cond.fieldLink RX0 25 "OnlyLent$Book" "searched" "Z" ∈ lw_tbl := am_tb2 (i := 35) rfl
theorem am_k18 : Cond.fieldLink RX0 29 "OnlyLent$Book" "first" "I" ∈ lw_tbl := am_tb2 (i := 36) rfl
theorem am_k19 : Cond.fieldLink RX0 32 "OnlyLent$Book" "trueBits" "I" ∈ lw_tbl := am_tb2 (i := 37) rfl
theorem am_k20 : Cond.fieldLink RX0 35 "OnlyLent$Book" "rivals" "I" ∈ lw_tbl := am_tb2 (i := 38) rfl
theorem am_k21 : Cond.fieldLink RX1 9 "OnlyLent$Choice" "wants" "[I" ∈ lw_tbl := am_tb1 (i := 108) rfl
theorem am_k22 : Cond.fieldLink RX1 15 "OnlyLent$Choice" "froms" "[I" ∈ lw_tbl := am_tb1 (i := 109) rfl
theorem am_k23 : Cond.fieldLink RX1 18 "OnlyLent$Choice" "tills" "[I" ∈ lw_tbl := am_tb1 (i := 110) rfl
theorem am_k24 : Cond.fieldLink RX1 21 "OnlyLent$Choice" "values" "[I" ∈ lw_tbl := am_tb1 (i := 111) rfl
theorem am_k25 : Cond.fieldLink RX1 24 "OnlyLent$Choice" "rests" "[I" ∈ lw_tbl := am_tb1 (i := 112) rfl
theorem am_k26 : Cond.fieldLink RX1 27 "OnlyLent$Choice" "onFirst" "[I" ∈ lw_tbl := am_tb1 (i := 113) rfl
theorem am_k27 : Cond.fieldLink RX1 30 "OnlyLent$Choice" "onNext" "[I" ∈ lw_tbl := am_tb1 (i := 114) rfl
theorem am_k28 : Cond.fieldLink RX1 33 "OnlyLent$Choice" "size" "I" ∈ lw_tbl := am_tb1 (i := 115) rfl
theorem am_k29 : Cond.fieldLink RX1 37 "OnlyLent$Choice" "room" "I" ∈ lw_tbl := am_tb1 (i := 116) rfl
theorem am_k30 : Cond.fieldLink RX1 40 "OnlyLent$Choice" "moreOn" "I" ∈ lw_tbl := am_tb1 (i := 117) rfl
theorem am_k31 : Cond.fieldLink RX1 43 "OnlyLent$Choice" "must" "I" ∈ lw_tbl := am_tb1 (i := 118) rfl
theorem am_k32 : Cond.fieldLink RX1 46 "OnlyLent$Choice" "later" "I" ∈ lw_tbl := am_tb1 (i := 119) rfl
theorem am_k33 : Cond.fieldLink RX1 49 "OnlyLent$Choice" "best" "I" ∈ lw_tbl := am_tb1 (i := 120) rfl
theorem am_k34 : Cond.fieldLink RX1 52 "OnlyLent$Choice" "bestBits" "I" ∈ lw_tbl := am_tb1 (i := 121) rfl
theorem am_k35 : Cond.fieldLink RX2 9 "OnlyLent$Giving" "wants" "[I" ∈ lw_tbl := am_tb1 (i := 177) rfl
theorem am_k36 : Cond.fieldLink RX2 15 "OnlyLent$Giving" "bests" "[J" ∈ lw_tbl := am_tb1 (i := 178) rfl
theorem am_k37 : Cond.fieldLink RX2 19 "OnlyLent$Giving" "costs" "[J" ∈ lw_tbl := am_tb1 (i := 179) rfl
theorem am_k38 : Cond.fieldLink RX2 22 "OnlyLent$Giving" "size" "I" ∈ lw_tbl := am_tb1 (i := 180) rfl
theorem am_k39 : Cond.fieldLink RX2 26 "OnlyLent$Giving" "ways" "LOnlyLent$Ways;" ∈ lw_tbl := am_tb1 (i := 176) rfl
theorem am_k40 : Cond.fieldLink RX3 9 "OnlyLent$Holdings" "depths" "[I" ∈ lw_tbl := am_tb1 (i := 75) rfl
theorem am_k41 : Cond.fieldLink RX3 15 "OnlyLent$Holdings" "holders" "[I" ∈ lw_tbl := am_tb1 (i := 76) rfl
theorem am_k42 : Cond.fieldLink RX3 18 "OnlyLent$Holdings" "dues" "[I" ∈ lw_tbl := am_tb1 (i := 77) rfl
theorem am_k43 : Cond.fieldLink RX3 21 "OnlyLent$Holdings" "day" "I" ∈ lw_tbl := am_tb1 (i := 78) rfl
theorem am_k44 : Cond.fieldLink RX3 25 "OnlyLent$Holdings" "carried" "I" ∈ lw_tbl := am_tb1 (i := 79) rfl
theorem am_k45 : Cond.fieldLink RX3 28 "OnlyLent$Holdings" "lost" "I" ∈ lw_tbl := am_tb1 (i := 80) rfl
theorem am_k46 : Cond.fieldLink RX3 31 "OnlyLent$Holdings" "lawful" "I" ∈ lw_tbl := am_tb1 (i := 81) rfl
theorem am_k47 : Cond.fieldLink RX3 34 "OnlyLent$Holdings" "kept" "Z" ∈ lw_tbl := am_tb1 (i := 82) rfl
theorem am_k48 : Cond.fieldLink RX4 9 "OnlyLent$Land" "personNames" "[J" ∈ lw_tbl := am_tb2 (i := 62) rfl
theorem am_k49 : Cond.fieldLink RX4 15 "OnlyLent$Land" "places" "[I" ∈ lw_tbl := am_tb2 (i := 63) rfl
theorem am_k50 : Cond.fieldLink RX4 19 "OnlyLent$Land" "heirs" "[I" ∈ lw_tbl := am_tb2 (i := 64) rfl
theorem am_k51 : Cond.fieldLink RX4 22 "OnlyLent$Land" "sortNames" "[J" ∈ lw_tbl := am_tb2 (i := 65) rfl
theorem am_k52 : Cond.fieldLink RX4 25 "OnlyLent$Land" "worths" "[I" ∈ lw_tbl := am_tb2 (i := 66) rfl
theorem am_k53 : Cond.fieldLink RX4 28 "OnlyLent$Land" "thingSorts" "[I" ∈ lw_tbl := am_tb2 (i := 67) rfl
theorem am_k54 : Cond.fieldLink RX4 31 "OnlyLent$Land" "owners" "[I" ∈ lw_tbl := am_tb2 (i := 68) rfl
theorem am_k55 : Cond.fieldLink RX4 34 "OnlyLent$Land" "wanters" "[I" ∈ lw_tbl := am_tb2 (i := 69) rfl
theorem am_k56 : Cond.fieldLink RX4 37 "OnlyLent$Land" "wantSorts" "[I" ∈ lw_tbl := am_tb2 (i := 70) rfl
theorem am_k57 : Cond.fieldLink RX4 40 "OnlyLent$Land" "froms" "[I" ∈ lw_tbl := am_tb2 (i := 71) rfl
theorem am_k58 : Cond.fieldLink RX4 43 "OnlyLent$Land" "tills" "[I" ∈ lw_tbl := am_tb2 (i := 72) rfl
theorem am_k59 : Cond.fieldLink RX4 46 "OnlyLent$Land" "weights" "[I" ∈ lw_tbl := am_tb2 (i := 73) rfl
theorem am_k60 : Cond.fieldLink RX4 49 "OnlyLent$Land" "byFrom" "[I" ∈ lw_tbl := am_tb2 (i := 74) rfl
theorem am_k61 : Cond.fieldLink RX4 52 "OnlyLent$Land" "people" "I" ∈ lw_tbl := am_tb2 (i := 75) rfl
theorem am_k62 : Cond.fieldLink RX4 56 "OnlyLent$Land" "sorts" "I" ∈ lw_tbl := am_tb2 (i := 76) rfl
theorem am_k63 : Cond.fieldLink RX4 59 "OnlyLent$Land" "things" "I" ∈ lw_tbl := am_tb2 (i := 77) rfl
theorem am_k64 : Cond.fieldLink RX4 62 "OnlyLent$Land" "wants" "I" ∈ lw_tbl := am_tb2 (i := 78) rfl
theorem am_k65 : Cond.fieldLink RX4 65 "OnlyLent$Land" "hands" "I" ∈ lw_tbl := am_tb2 (i := 79) rfl
theorem am_k66 : Cond.fieldLink RX4 68 "OnlyLent$Land" "road" "I" ∈ lw_tbl := am_tb2 (i := 80) rfl
theorem am_k67 : Cond.fieldLink RX5 9 "OnlyLent$Lateness" "hurt" "I" ∈ lw_tbl := am_tb2 (i := 18) rfl
theorem am_k68 : Cond.fieldLink RX5 15 "OnlyLent$Lateness" "weight" "I" ∈ lw_tbl := am_tb2 (i := 19) rfl
theorem am_k69 : Cond.fieldLink RX6 12 "OnlyLent$Plan" "ways" "LOnlyLent$Ways;" ∈ lw_tbl := am_tb1 (i := 225) rfl
theorem am_k70 : Cond.fieldLink RX6 23 "OnlyLent$Plan" "giving" "LOnlyLent$Giving;" ∈ lw_tbl := am_tb1 (i := 226) rfl
theorem am_k71 : Cond.fieldLink RX6 30 "OnlyLent$Plan" "trips" "LOnlyLent$Trips;" ∈ lw_tbl := am_tb1 (i := 227) rfl
theorem am_k72 : Cond.fieldLink RX6 34 "OnlyLent$Plan" "things" "[I" ∈ lw_tbl := am_tb1 (i := 228) rfl
theorem am_k73 : Cond.fieldLink RX6 38 "OnlyLent$Plan" "line" "[I" ∈ lw_tbl := am_tb1 (i := 229) rfl
theorem am_k74 : Cond.fieldLink RX6 41 "OnlyLent$Plan" "made" "Z" ∈ lw_tbl := am_tb1 (i := 230) rfl
theorem am_k75 : Cond.fieldLink RX6 45 "OnlyLent$Plan" "lost" "I" ∈ lw_tbl := am_tb1 (i := 231) rfl
theorem am_k76 : Cond.fieldLink RX6 49 "OnlyLent$Plan" "metBits" "I" ∈ lw_tbl := am_tb1 (i := 232) rfl
theorem am_k77 : Cond.fieldLink RX6 52 "OnlyLent$Plan" "choice" "LOnlyLent$Choice;" ∈ lw_tbl := am_tb1 (i := 224) rfl
theorem am_k78 : Cond.fieldLink RX7 9 "OnlyLent$Reader" "place" "I" ∈ lw_tbl := am_tb1 (i := 51) rfl
theorem am_k79 : Cond.fieldLink RX7 15 "OnlyLent$Reader" "start" "I" ∈ lw_tbl := am_tb1 (i := 52) rfl
theorem am_k80 : Cond.fieldLink RX7 18 "OnlyLent$Reader" "kind" "I" ∈ lw_tbl := am_tb1 (i := 53) rfl
theorem am_k81 : Cond.fieldLink RX7 21 "OnlyLent$Reader" "number" "I" ∈ lw_tbl := am_tb1 (i := 54) rfl
theorem am_k82 : Cond.fieldLink RX7 24 "OnlyLent$Reader" "name" "J" ∈ lw_tbl := am_tb1 (i := 55) rfl
theorem am_k83 : Cond.fieldLink RX7 28 "OnlyLent$Reader" "text" "LOnlyLent$Text;" ∈ lw_tbl := am_tb1 (i := 50) rfl
theorem am_k84 : Cond.fieldLink RX8 9 "OnlyLent$Text" "bytes" "[B" ∈ lw_tbl := am_tb1 (i := 36) rfl
theorem am_k85 : Cond.fieldLink RX8 15 "OnlyLent$Text" "size" "I" ∈ lw_tbl := am_tb1 (i := 37) rfl
theorem am_k86 : Cond.fieldLink RX9 11 "OnlyLent$Trips" "sorts" "[I" ∈ lw_tbl := am_tb1 (i := 199) rfl
theorem am_k87 : Cond.fieldLink RX9 15 "OnlyLent$Trips" "days" "[I" ∈ lw_tbl := am_tb1 (i := 200) rfl
theorem am_k88 : Cond.fieldLink RX9 18 "OnlyLent$Trips" "starts" "[I" ∈ lw_tbl := am_tb1 (i := 201) rfl
theorem am_k89 : Cond.fieldLink RX9 21 "OnlyLent$Trips" "goals" "[I" ∈ lw_tbl := am_tb1 (i := 202) rfl
theorem am_k90 : Cond.fieldLink RX9 24 "OnlyLent$Trips" "stretches" "[I" ∈ lw_tbl := am_tb1 (i := 203) rfl
theorem am_k91 : Cond.fieldLink RX9 27 "OnlyLent$Trips" "fixedOn" "[I" ∈ lw_tbl := am_tb1 (i := 204) rfl
theorem am_k92 : Cond.fieldLink RX9 30 "OnlyLent$Trips" "freeFrom" "[I" ∈ lw_tbl := am_tb1 (i := 205) rfl
theorem am_k93 : Cond.fieldLink RX9 33 "OnlyLent$Trips" "size" "I" ∈ lw_tbl := am_tb1 (i := 206) rfl
theorem am_k94 : Cond.fieldLink RX10 9 "OnlyLent$Ways" "places" "[I" ∈ lw_tbl := am_tb1 (i := 163) rfl
theorem am_k95 : Cond.fieldLink RX10 15 "OnlyLent$Ways" "leasts" "[I" ∈ lw_tbl := am_tb1 (i := 164) rfl
theorem am_k96 : Cond.fieldLink RX12 7 "OnlyLentModel" "refused" "[I" ∈ lw_tbl := am_tb6 (i := 185) rfl
theorem am_k97 : Cond.fieldLink RX12 13 "OnlyLentModel" "text" "[B" ∈ lw_tbl := am_tb6 (i := 186) rfl
theorem am_k98 : Cond.fieldLink RX12 19 "OnlyLentModel" "placeX" "[[I" ∈ lw_tbl := am_tb6 (i := 192) rfl
theorem am_k99 : Cond.fieldLink RX12 22 "OnlyLentModel" "heir" "[[I" ∈ lw_tbl := am_tb6 (i := 193) rfl
theorem am_k100 : Cond.fieldLink RX12 25 "OnlyLentModel" "worth" "[[I" ∈ lw_tbl := am_tb6 (i := 194) rfl
theorem am_k101 : Cond.fieldLink RX12 28 "OnlyLentModel" "thingSort" "[[I" ∈ lw_tbl := am_tb6 (i := 195) rfl
theorem am_k102 : Cond.fieldLink RX12 31 "OnlyLentModel" "thingOwner" "[[I" ∈ lw_tbl := am_tb6 (i := 196) rfl
theorem am_k103 : Cond.fieldLink RX12 34 "OnlyLentModel" "wantWho" "[[I" ∈ lw_tbl := am_tb6 (i := 197) rfl
theorem am_k104 : Cond.fieldLink RX12 37 "OnlyLentModel" "wantSort" "[[I" ∈ lw_tbl := am_tb6 (i := 198) rfl
theorem am_k105 : Cond.fieldLink RX12 40 "OnlyLentModel" "wantFrom" "[[I" ∈ lw_tbl := am_tb6 (i := 199) rfl
theorem am_k106 : Cond.fieldLink RX12 43 "OnlyLentModel" "wantTo" "[[I" ∈ lw_tbl := am_tb6 (i := 200) rfl
theorem am_k107 : Cond.fieldLink RX12 46 "OnlyLentModel" "wantWorth" "[[I" ∈ lw_tbl := am_tb6 (i := 201) rfl
theorem am_k108 : Cond.fieldLink RX12 49 "OnlyLentModel" "head" "[[I" ∈ lw_tbl := am_tb6 (i := 202) rfl
theorem am_k109 : Cond.fieldLink RX12 52 "OnlyLentModel" "names" "[J" ∈ lw_tbl := am_tb6 (i := 203) rfl
theorem am_k110 : Cond.fieldLink RX12 71 "OnlyLentModel" "words" "[Ljava/lang/String;" ∈ lw_tbl := am_tb6 (i := 207) rfl
theorem am_k111 : Cond.fieldLink RX12 75 "OnlyLentModel" "chainWho" "[I" ∈ lw_tbl := am_tb6 (i := 208) rfl
theorem am_k112 : Cond.fieldLink RX12 78 "OnlyLentModel" "chainTill" "[I" ∈ lw_tbl := am_tb6 (i := 209) rfl
theorem am_k113 : Cond.fieldLink RX12 81 "OnlyLentModel" "chainMany" "[I" ∈ lw_tbl := am_tb6 (i := 210) rfl
theorem am_k114 : Cond.fieldLink RX12 84 "OnlyLentModel" "isLost" "[I" ∈ lw_tbl := am_tb6 (i := 211) rfl
theorem am_k115 : Cond.fieldLink RX12 87 "OnlyLentModel" "moreDay" "I" ∈ lw_tbl := am_tb6 (i := 215) rfl
theorem am_k116 : Cond.fieldLink RX12 91 "OnlyLentModel" "longWant" "I" ∈ lw_tbl := am_tb6 (i := 216) rfl
theorem am_k117 : Cond.fieldLink RX12 94 "OnlyLentModel" "without" "I" ∈ lw_tbl := am_tb6 (i := 218) rfl
theorem am_k118 : Cond.fieldLink RX12 97 "OnlyLentModel" "givenTo" "[I" ∈ lw_tbl := am_tb6 (i := 219) rfl
theorem am_k119 : Cond.fieldLink RX12 100 "OnlyLentModel" "bestTo" "[I" ∈ lw_tbl := am_tb6 (i := 220) rfl
theorem am_k120 : Cond.fieldLink RX12 103 "OnlyLentModel" "listed" "[I" ∈ lw_tbl := am_tb6 (i := 221) rfl
theorem am_k121 : Cond.fieldLink RX12 106 "OnlyLentModel" "row" "[I" ∈ lw_tbl := am_tb6 (i := 222) rfl
theorem am_k122 : Cond.fieldLink RX12 109 "OnlyLentModel" "moveFrom" "[I" ∈ lw_tbl := am_tb6 (i := 227) rfl
theorem am_k123 : Cond.fieldLink RX12 112 "OnlyLentModel" "moveTo" "[I" ∈ lw_tbl := am_tb6 (i := 228) rfl
theorem am_k124 : Cond.fieldLink RX12 115 "OnlyLentModel" "moveDay" "[I" ∈ lw_tbl := am_tb6 (i := 229) rfl
theorem am_k125 : Cond.fieldLink RX12 118 "OnlyLentModel" "moveSort" "[I" ∈ lw_tbl := am_tb6 (i := 230) rfl
theorem am_k126 : Cond.fieldLink RX12 121 "OnlyLentModel" "moveIsLast" "[I" ∈ lw_tbl := am_tb6 (i := 231) rfl
theorem am_k127 : Cond.fieldLink RX12 124 "OnlyLentModel" "sources" "[I" ∈ lw_tbl := am_tb6 (i := 233) rfl
theorem am_k128 : Cond.fieldLink RX12 127 "OnlyLentModel" "goals" "[I" ∈ lw_tbl := am_tb6 (i := 234) rfl
theorem am_k129 : Cond.fieldLink RX12 130 "OnlyLentModel" "entryFrom" "[I" ∈ lw_tbl := am_tb6 (i := 237) rfl
theorem am_k130 : Cond.fieldLink RX12 133 "OnlyLentModel" "entryTo" "[I" ∈ lw_tbl := am_tb6 (i := 238) rfl
theorem am_k131 : Cond.fieldLink RX12 136 "OnlyLentModel" "line" "[I" ∈ lw_tbl := am_tb6 (i := 239) rfl
theorem am_k132 : Cond.fieldLink RX12 139 "OnlyLentModel" "kept" "[[I" ∈ lw_tbl := am_tb7 (i := 2) rfl
theorem am_k133 : Cond.fieldLink RX12 142 "OnlyLentModel" "hasImage" "[Z" ∈ lw_tbl := am_tb7 (i := 3) rfl
theorem am_k134 : Cond.fieldLink RX12 152 "OnlyLentModel" "textMany" "I" ∈ lw_tbl := am_tb6 (i := 187) rfl
theorem am_k135 : Cond.fieldLink RX12 167 "OnlyLentModel" "to" "I" ∈ lw_tbl := am_tb6 (i := 189) rfl
theorem am_k136 : Cond.fieldLink RX12 170 "OnlyLentModel" "at" "I" ∈ lw_tbl := am_tb6 (i := 188) rfl
theorem am_k137 : Cond.fieldLink RX12 177 "OnlyLentModel" "faultAt" "I" ∈ lw_tbl := am_tb6 (i := 190) rfl
theorem am_k138 : Cond.fieldLink RX12 195 "OnlyLentModel" "value" "I" ∈ lw_tbl := am_tb6 (i := 191) rfl
theorem am_k139 : Cond.fieldLink RX12 236 "OnlyLentModel" "hasHands" "Z" ∈ lw_tbl := am_tb6 (i := 205) rfl
theorem am_k140 : Cond.fieldLink RX12 240 "OnlyLentModel" "hasRoad" "Z" ∈ lw_tbl := am_tb6 (i := 206) rfl
theorem am_k141 : Cond.fieldLink RX12 255 "OnlyLentModel" "hasLand" "Z" ∈ lw_tbl := am_tb6 (i := 204) rfl
theorem am_k142 : Cond.fieldLink RX12 258 "OnlyLentModel" "day" "I" ∈ lw_tbl := am_tb6 (i := 212) rfl
theorem am_k143 : Cond.fieldLink RX12 261 "OnlyLentModel" "carried" "I" ∈ lw_tbl := am_tb6 (i := 213) rfl
theorem am_k144 : Cond.fieldLink RX12 264 "OnlyLentModel" "lawNow" "I" ∈ lw_tbl := am_tb6 (i := 214) rfl
theorem am_k145 : Cond.fieldLink RX12 267 "OnlyLentModel" "entries" "I" ∈ lw_tbl := am_tb7 (i := 0) rfl
theorem am_k146 : Cond.fieldLink RX12 312 "OnlyLentModel" "longBy" "I" ∈ lw_tbl := am_tb6 (i := 217) rfl
theorem am_k147 : Cond.fieldLink RX12 351 "OnlyLentModel" "rowMany" "I" ∈ lw_tbl := am_tb6 (i := 224) rfl
theorem am_k148 : Cond.fieldLink RX12 354 "OnlyLentModel" "wayBits" "I" ∈ lw_tbl := am_tb6 (i := 226) rfl
theorem am_k149 : Cond.fieldLink RX12 360 "OnlyLentModel" "listedMany" "I" ∈ lw_tbl := am_tb6 (i := 223) rfl
theorem am_k150 : Cond.fieldLink RX12 370 "OnlyLentModel" "bestWays" "I" ∈ lw_tbl := am_tb6 (i := 225) rfl
theorem am_k151 : Cond.fieldLink RX12 386 "OnlyLentModel" "moveMany" "I" ∈ lw_tbl := am_tb6 (i := 232) rfl
theorem am_k152 : Cond.fieldLink RX12 402 "OnlyLentModel" "hurtBits" "I" ∈ lw_tbl := am_tb6 (i := 235) rfl
theorem am_k153 : Cond.fieldLink RX12 405 "OnlyLentModel" "hurtWorth" "I" ∈ lw_tbl := am_tb6 (i := 236) rfl
theorem am_k154 : Cond.fieldLink RX12 422 "OnlyLentModel" "lots" "J" ∈ lw_tbl := am_tb7 (i := 1) rfl
theorem am_k155 : Cond.fieldLink RX12 443 "OnlyLentModel" "cursor" "I" ∈ lw_tbl := am_tb7 (i := 4) rfl
theorem am_k156 : Cond.fieldLink RJ0 9 "java/lang/String" "value" "[B" ∈ lw_tbl := am_tb9 (i := 29) rfl
theorem am_k157 : Cond.fieldLink RJ0 15 "java/lang/String" "coder" "B" ∈ lw_tbl := am_tb9 (i := 30) rfl
theorem am_k158 : Cond.methodLink RX11 18 yX7_init ∈ lw_tbl := am_tb1 (i := 46) rfl
theorem am_k159 : Cond.methodLink RX11 45 yX6_init ∈ lw_tbl := am_tb1 (i := 153) rfl
theorem am_k160 : Cond.methodLink RX11 84 yX8_hasRoom ∈ lw_tbl := am_tb2 (i := 161) rfl
theorem am_k161 : Cond.methodLink RX11 88 yX11_refuse ∈ lw_tbl := am_tb2 (i := 165) rfl
theorem am_k162 : Cond.methodLink RX11 92 yX8_addNumber ∈ lw_tbl := am_tb2 (i := 175) rfl
theorem am_k163 : Cond.methodLink RX11 96 yX8_size ∈ lw_tbl := am_tb2 (i := 183) rfl
theorem am_k164 : Cond.methodLink RX11 100 yX11_deny ∈ lw_tbl := am_tb2 (i := 191) rfl
theorem am_k165 : Cond.methodLink RX11 103 yX8_cut ∈ lw_tbl := am_tb2 (i := 195) rfl
theorem am_k166 : Cond.methodLink RX11 106 yX7_read ∈ lw_tbl := am_tb2 (i := 203) rfl
theorem am_k167 : Cond.methodLink RX11 110 yX3_begin ∈ lw_tbl := am_tb3 (i := 226) rfl
theorem am_k168 : Cond.methodLink RX11 114 yX11_dropImages ∈ lw_tbl := am_tb4 (i := 5) rfl
theorem am_k169 : Cond.methodLink RX11 117 yX0_clear ∈ lw_tbl := am_tb4 (i := 13) rfl
theorem am_k170 : Cond.methodLink RX11 120 yX6_forget ∈ lw_tbl := am_tb4 (i := 17) rfl
theorem am_k171 : Cond.methodLink RX11 123 yX4_people ∈ lw_tbl := am_tb4 (i := 21) rfl
theorem am_k172 : Cond.methodLink RX11 126 yX4_isPerson ∈ lw_tbl := am_tb4 (i := 26) rfl
theorem am_k173 : Cond.methodLink RX11 129 yX4_placeOf ∈ lw_tbl := am_tb4 (i := 30) rfl
theorem am_k174 : Cond.methodLink RX11 132 yX4_heirOf ∈ lw_tbl := am_tb4 (i := 34) rfl
theorem am_k175 : Cond.methodLink RX11 135 yX3_heldBy ∈ lw_tbl := am_tb4 (i := 35) rfl
theorem am_k176 : Cond.methodLink RX11 139 yX4_isWant ∈ lw_tbl := am_tb4 (i := 56) rfl
theorem am_k177 : Cond.methodLink RX11 142 yX4_whoWants ∈ lw_tbl := am_tb4 (i := 60) rfl
theorem am_k178 : Cond.methodLink RX11 145 yX4_sortOfWant ∈ lw_tbl := am_tb4 (i := 64) rfl
theorem am_k179 : Cond.methodLink RX11 148 yX4_fromOf ∈ lw_tbl := am_tb4 (i := 65) rfl
theorem am_k180 : Cond.methodLink RX11 151 yX4_tillOf ∈ lw_tbl := am_tb4 (i := 66) rfl
theorem am_k181 : Cond.methodLink RX11 154 yX4_weightOf ∈ lw_tbl := am_tb4 (i := 70) rfl
theorem am_k182 : Cond.methodLink RX11 157 yX4_isThing ∈ lw_tbl := am_tb4 (i := 78) rfl
theorem am_k183 : Cond.methodLink RX11 160 yX4_sortOfThing ∈ lw_tbl := am_tb4 (i := 82) rfl
theorem am_k184 : Cond.methodLink RX11 163 yX4_ownerOf ∈ lw_tbl := am_tb4 (i := 83) rfl
theorem am_k185 : Cond.methodLink RX11 166 yX3_holderOf ∈ lw_tbl := am_tb4 (i := 84) rfl
theorem am_k186 : Cond.methodLink RX11 169 yX3_depthOf ∈ lw_tbl := am_tb4 (i := 85) rfl
theorem am_k187 : Cond.methodLink RX11 172 yX3_tillAt ∈ lw_tbl := am_tb4 (i := 86) rfl
theorem am_k188 : Cond.methodLink RX11 176 yX3_isLost ∈ lw_tbl := am_tb4 (i := 90) rfl
theorem am_k189 : Cond.methodLink RX11 179 yX3_whoAt ∈ lw_tbl := am_tb4 (i := 95) rfl
theorem am_k190 : Cond.methodLink RX11 182 yX4_hands ∈ lw_tbl := am_tb4 (i := 100) rfl
theorem am_k191 : Cond.methodLink RX11 185 yX3_mayLend ∈ lw_tbl := am_tb4 (i := 104) rfl
theorem am_k192 : Cond.methodLink RX11 189 yX3_hand ∈ lw_tbl := am_tb4 (i := 113) rfl
theorem am_k193 : Cond.methodLink RX11 193 yX3_giveBack ∈ lw_tbl := am_tb4 (i := 129) rfl
theorem am_k194 : Cond.methodLink RX11 196 yX3_today ∈ lw_tbl := am_tb4 (i := 137) rfl
theorem am_k195 : Cond.methodLink RX11 199 yX3_passDay ∈ lw_tbl := am_tb4 (i := 141) rfl
theorem am_k196 : Cond.methodLink RX11 202 yX3_setLost ∈ lw_tbl := am_tb4 (i := 153) rfl
theorem am_k197 : Cond.methodLink RX11 205 yX3_setLaw ∈ lw_tbl := am_tb4 (i := 161) rfl
theorem am_k198 : Cond.methodLink RX11 208 yX3_debt ∈ lw_tbl := am_tb4 (i := 169) rfl
theorem am_k199 : Cond.methodLink RX11 213 yX11_prepare ∈ lw_tbl := am_tb4 (i := 191) rfl
theorem am_k200 : Cond.methodLink RX11 216 yX6_metBits ∈ lw_tbl := am_tb5 (i := 132) rfl
theorem am_k201 : Cond.methodLink RX11 219 yX4_weightOfAll ∈ lw_tbl := am_tb5 (i := 136) rfl
theorem am_k202 : Cond.methodLink RX11 222 yX4_sorts ∈ lw_tbl := am_tb5 (i := 141) rfl
theorem am_k203 : Cond.methodLink RX11 225 yX4_wantsOn ∈ lw_tbl := am_tb5 (i := 142) rfl
theorem am_k204 : Cond.methodLink RX11 228 yX3_lostBits ∈ lw_tbl := am_tb4 (i := 195) rfl
theorem am_k205 : Cond.methodLink RX11 231 yX4_thingsLeft ∈ lw_tbl := am_tb5 (i := 147) rfl
theorem am_k206 : Cond.methodLink RX11 234 yX4_isSort ∈ lw_tbl := am_tb5 (i := 152) rfl
theorem am_k207 : Cond.methodLink RX11 237 yX1_setMoreOn ∈ lw_tbl := am_tb5 (i := 156) rfl
theorem am_k208 : Cond.methodLink RX11 240 yX4_wantsOfSort ∈ lw_tbl := am_tb5 (i := 160) rfl
theorem am_k209 : Cond.methodLink RX11 243 yX1_most ∈ lw_tbl := am_tb5 (i := 161) rfl
theorem am_k210 : Cond.methodLink RX11 246 yX11_metOfSort ∈ lw_tbl := am_tb5 (i := 162) rfl
theorem am_k211 : Cond.methodLink RX11 249 yX1_setLonger ∈ lw_tbl := am_tb5 (i := 170) rfl
theorem am_k212 : Cond.methodLink RX11 253 yX4_wants ∈ lw_tbl := am_tb5 (i := 178) rfl
theorem am_k213 : Cond.methodLink RX11 256 yX4_things ∈ lw_tbl := am_tb5 (i := 179) rfl
theorem am_k214 : Cond.methodLink RX11 259 yJ6_bitCount_0f7a4 ∈ lw_tbl := am_tb5 (i := 180) rfl
theorem am_k215 : Cond.methodLink RX11 264 yX6_thingFor ∈ lw_tbl := am_tb5 (i := 185) rfl
theorem am_k216 : Cond.methodLink RX11 267 yX6_waysOf ∈ lw_tbl := am_tb5 (i := 190) rfl
theorem am_k217 : Cond.methodLink RX11 270 yX6_allTrips ∈ lw_tbl := am_tb5 (i := 201) rfl
theorem am_k218 : Cond.methodLink RX11 274 yX9_howMany ∈ lw_tbl := am_tb5 (i := 205) rfl
theorem am_k219 : Cond.methodLink RX11 279 yX9_howFar ∈ lw_tbl := am_tb5 (i := 213) rfl
theorem am_k220 : Cond.methodLink RX11 282 yX9_exchanged ∈ lw_tbl := am_tb5 (i := 218) rfl
theorem am_k221 : Cond.methodLink RX11 285 yX4_road ∈ lw_tbl := am_tb5 (i := 226) rfl
theorem am_k222 : Cond.methodLink RX11 288 yX9_daysLater ∈ lw_tbl := am_tb5 (i := 230) rfl
theorem am_k223 : Cond.methodLink RX11 291 yX5_reckon ∈ lw_tbl := am_tb5 (i := 239) rfl
theorem am_k224 : Cond.methodLink RX11 295 yX5_hurtBits ∈ lw_tbl := am_tb6 (i := 18) rfl
theorem am_k225 : Cond.methodLink RX11 298 yX5_lostWeight ∈ lw_tbl := am_tb6 (i := 22) rfl
theorem am_k226 : Cond.methodLink RX11 301 yX5_mostBorne ∈ lw_tbl := am_tb6 (i := 30) rfl
theorem am_k227 : Cond.methodLink RX11 305 yX11_lostByDeath ∈ lw_tbl := am_tb6 (i := 39) rfl
theorem am_k228 : Cond.methodLink RX11 308 yX11_freedByDeath ∈ lw_tbl := am_tb6 (i := 50) rfl
theorem am_k229 : Cond.methodLink RX11 311 yX0_entries ∈ lw_tbl := am_tb6 (i := 58) rfl
theorem am_k230 : Cond.methodLink RX11 314 yX0_write ∈ lw_tbl := am_tb6 (i := 62) rfl
theorem am_k231 : Cond.methodLink RX11 317 yX0_strike ∈ lw_tbl := am_tb6 (i := 71) rfl
theorem am_k232 : Cond.methodLink RX11 320 yX0_seek ∈ lw_tbl := am_tb6 (i := 79) rfl
theorem am_k233 : Cond.methodLink RX11 323 yX0_first ∈ lw_tbl := am_tb6 (i := 98) rfl
theorem am_k234 : Cond.methodLink RX11 326 yX0_trueBits ∈ lw_tbl := am_tb6 (i := 102) rfl
theorem am_k235 : Cond.methodLink RX11 329 yX0_rivalBits ∈ lw_tbl := am_tb6 (i := 106) rfl
theorem am_k236 : Cond.methodLink RX11 333 yX6_metInYears ∈ lw_tbl := am_tb6 (i := 115) rfl
theorem am_k237 : Cond.methodLink RX11 336 yX11_imageOf ∈ lw_tbl := am_tb6 (i := 129) rfl
theorem am_k238 : Cond.methodLink RX11 340 yX3_copyOf ∈ lw_tbl := am_tb6 (i := 133) rfl
theorem am_k239 : Cond.methodLink RX11 344 yX3_setKept ∈ lw_tbl := am_tb4 (i := 9) rfl
theorem am_k240 : Cond.methodLink RX11 348 yX3_isKept ∈ lw_tbl := am_tb6 (i := 144) rfl
theorem am_k241 : Cond.methodLink RX11 352 yX11_at ∈ lw_tbl := am_tb2 (i := 169) rfl
theorem am_k242 : Cond.methodLink RX11 356 yX11_countInLand ∈ lw_tbl := am_tb6 (i := 156) rfl
theorem am_k243 : Cond.methodLink RX11 359 yX3_carriedSoFar ∈ lw_tbl := am_tb6 (i := 160) rfl
theorem am_k244 : Cond.methodLink RX11 362 yX3_lawNow ∈ lw_tbl := am_tb6 (i := 164) rfl
theorem am_k245 : Cond.methodLink RX11 365 yX11_put ∈ lw_tbl := am_tb2 (i := 172) rfl
theorem am_k246 : Cond.methodLink RX11 369 yX6_make ∈ lw_tbl := am_tb4 (i := 199) rfl
theorem am_k247 : Cond.methodLink RX11 373 yX4_wantsOfPerson ∈ lw_tbl := am_tb6 (i := 43) rfl
theorem am_k248 : Cond.methodLink RX11 376 yX11_hasBit ∈ lw_tbl := am_tb6 (i := 48) rfl
theorem am_k249 : Cond.methodLink RX11 380 yX4_partOf ∈ lw_tbl := am_tb6 (i := 49) rfl
theorem am_k250 : Cond.methodLink RX0 42 yX0_mostTrue ∈ lw_tbl := am_tb6 (i := 83) rfl
theorem am_k251 : Cond.methodLink RX0 46 yJ6_bitCount_0f7a4 ∈ lw_tbl := am_tb6 (i := 87) rfl
theorem am_k252 : Cond.methodLink RX0 51 yX0_areTrue ∈ lw_tbl := am_tb6 (i := 88) rfl
theorem am_k253 : Cond.methodLink RX0 62 yX0_placeInRow ∈ lw_tbl := am_tb6 (i := 94) rfl
theorem am_k254 : Cond.methodLink RX1 55 yX1_load ∈ lw_tbl := am_tb4 (i := 217) rfl
theorem am_k255 : Cond.methodLink RX1 59 yX1_search ∈ lw_tbl := am_tb4 (i := 236) rfl
theorem am_k256 : Cond.methodLink RX1 63 yX4_weightOfAll ∈ lw_tbl := am_tb5 (i := 8) rfl
theorem am_k257 : Cond.methodLink RX1 69 yX4_wants ∈ lw_tbl := am_tb4 (i := 221) rfl
theorem am_k258 : Cond.methodLink RX1 72 yX4_byFirstDay ∈ lw_tbl := am_tb4 (i := 222) rfl
theorem am_k259 : Cond.methodLink RX1 79 yX4_fromOf ∈ lw_tbl := am_tb4 (i := 227) rfl
theorem am_k260 : Cond.methodLink RX1 82 yX4_tillOf ∈ lw_tbl := am_tb4 (i := 228) rfl
theorem am_k261 : Cond.methodLink RX1 85 yX4_weightOf ∈ lw_tbl := am_tb4 (i := 229) rfl
theorem am_k262 : Cond.methodLink RX1 88 yX1_loadWant ∈ lw_tbl := am_tb4 (i := 230) rfl
theorem am_k263 : Cond.methodLink RX1 100 yX1_fits ∈ lw_tbl := am_tb4 (i := 239) rfl
theorem am_k264 : Cond.methodLink RX1 103 yJ6_bitCount_0f7a4 ∈ lw_tbl := am_tb5 (i := 3) rfl
theorem am_k265 : Cond.methodLink RX1 108 yX1_roomOn ∈ lw_tbl := am_tb5 (i := 4) rfl
theorem am_k266 : Cond.methodLink RX2 30 yX4_wantsOfSort ∈ lw_tbl := am_tb5 (i := 22) rfl
theorem am_k267 : Cond.methodLink RX2 36 yX2_load ∈ lw_tbl := am_tb5 (i := 23) rfl
theorem am_k268 : Cond.methodLink RX2 42 yJ7_fill_d0a16 ∈ lw_tbl := am_tb5 (i := 32) rfl
theorem am_k269 : Cond.methodLink RX2 52 yX4_things ∈ lw_tbl := am_tb5 (i := 36) rfl
theorem am_k270 : Cond.methodLink RX2 56 yX4_sortOfThing ∈ lw_tbl := am_tb5 (i := 37) rfl
theorem am_k271 : Cond.methodLink RX2 63 yX4_homeOf ∈ lw_tbl := am_tb5 (i := 38) rfl
theorem am_k272 : Cond.methodLink RX2 66 yX2_costOf ∈ lw_tbl := am_tb5 (i := 42) rfl
theorem am_k273 : Cond.methodLink RX2 70 yX2_addThing ∈ lw_tbl := am_tb5 (i := 72) rfl
theorem am_k274 : Cond.methodLink RX2 77 yX2_shiftOf ∈ lw_tbl := am_tb5 (i := 58) rfl
theorem am_k275 : Cond.methodLink RX2 80 yX4_wants ∈ lw_tbl := am_tb5 (i := 27) rfl
theorem am_k276 : Cond.methodLink RX2 82 yX4_byFirstDay ∈ lw_tbl := am_tb5 (i := 28) rfl
theorem am_k277 : Cond.methodLink RX2 91 yX4_fromOf ∈ lw_tbl := am_tb5 (i := 47) rfl
theorem am_k278 : Cond.methodLink RX2 94 yX4_tillOf ∈ lw_tbl := am_tb5 (i := 48) rfl
theorem am_k279 : Cond.methodLink RX2 97 yX4_placeOfWant ∈ lw_tbl := am_tb5 (i := 49) rfl
theorem am_k280 : Cond.methodLink RX2 100 yX10_setPlace ∈ lw_tbl := am_tb5 (i := 53) rfl
theorem am_k281 : Cond.methodLink RX2 106 yX10_leastWay ∈ lw_tbl := am_tb5 (i := 61) rfl
theorem am_k282 : Cond.methodLink RX2 110 yX10_farOf ∈ lw_tbl := am_tb5 (i := 69) rfl
theorem am_k283 : Cond.methodLink RX3 38 yX4_things ∈ lw_tbl := am_tb3 (i := 230) rfl
theorem am_k284 : Cond.methodLink RX3 48 yX4_ownerOf ∈ lw_tbl := am_tb3 (i := 232) rfl
theorem am_k285 : Cond.methodLink RX3 52 yX3_push ∈ lw_tbl := am_tb3 (i := 236) rfl
theorem am_k286 : Cond.methodLink RX3 70 yX3_depthOf ∈ lw_tbl := am_tb4 (i := 0) rfl
theorem am_k287 : Cond.methodLink RX3 73 yX3_whoAt ∈ lw_tbl := am_tb4 (i := 48) rfl
theorem am_k288 : Cond.methodLink RX3 77 yX3_isLost ∈ lw_tbl := am_tb4 (i := 39) rfl
theorem am_k289 : Cond.methodLink RX3 81 yX3_holderOf ∈ lw_tbl := am_tb4 (i := 44) rfl
theorem am_k290 : Cond.methodLink RX3 84 yX3_tillAt ∈ lw_tbl := am_tb4 (i := 108) rfl
theorem am_k291 : Cond.methodLink RX3 87 yX3_isInChain ∈ lw_tbl := am_tb4 (i := 109) rfl
theorem am_k292 : Cond.methodLink RX3 90 yX4_apart ∈ lw_tbl := am_tb4 (i := 117) rfl
theorem am_k293 : Cond.methodLink RX3 93 yX3_endLoans ∈ lw_tbl := am_tb4 (i := 145) rfl
theorem am_k294 : Cond.methodLink RX3 97 yX3_owesFor ∈ lw_tbl := am_tb4 (i := 173) rfl
theorem am_k295 : Cond.methodLink RX3 101 yX4_sortOfThing ∈ lw_tbl := am_tb4 (i := 177) rfl
theorem am_k296 : Cond.methodLink RX3 104 yX4_worthOf ∈ lw_tbl := am_tb4 (i := 178) rfl
theorem am_k297 : Cond.methodLink RX4 78 yX4_orderByFrom ∈ lw_tbl := am_tb3 (i := 178) rfl
theorem am_k298 : Cond.methodLink RX4 86 yX4_fromOf ∈ lw_tbl := am_tb3 (i := 182) rfl
theorem am_k299 : Cond.methodLink RX4 93 yX4_placeOf ∈ lw_tbl := am_tb4 (i := 121) rfl
theorem am_k300 : Cond.methodLink RX4 101 yX4_tillOf ∈ lw_tbl := am_tb5 (i := 146) rfl
theorem am_k301 : Cond.methodLink RX4 104 yX4_weightOf ∈ lw_tbl := am_tb5 (i := 12) rfl
theorem am_k302 : Cond.methodLink RX4 115 yX4_sortOfWant ∈ lw_tbl := am_tb3 (i := 164) rfl
theorem am_k303 : Cond.methodLink RX4 118 yX4_whoWants ∈ lw_tbl := am_tb6 (i := 47) rfl
theorem am_k304 : Cond.methodLink RX4 121 yX4_sortOfThing ∈ lw_tbl := am_tb3 (i := 136) rfl
theorem am_k305 : Cond.methodLink RX5 18 yX4_things ∈ lw_tbl := am_tb6 (i := 3) rfl
theorem am_k306 : Cond.methodLink RX5 24 yX6_lineUp ∈ lw_tbl := am_tb6 (i := 4) rfl
theorem am_k307 : Cond.methodLink RX5 30 yX6_lined ∈ lw_tbl := am_tb6 (i := 5) rfl
theorem am_k308 : Cond.methodLink RX5 34 yX4_whoWants ∈ lw_tbl := am_tb6 (i := 6) rfl
theorem am_k309 : Cond.methodLink RX5 37 yX5_freeBehind ∈ lw_tbl := am_tb6 (i := 7) rfl
theorem am_k310 : Cond.methodLink RX5 41 yX4_fromOf ∈ lw_tbl := am_tb6 (i := 11) rfl
theorem am_k311 : Cond.methodLink RX5 44 yX4_partOf ∈ lw_tbl := am_tb6 (i := 12) rfl
theorem am_k312 : Cond.methodLink RX5 48 yX4_tillOf ∈ lw_tbl := am_tb6 (i := 17) rfl
theorem am_k313 : Cond.methodLink RX6 20 yX2_init ∈ lw_tbl := am_tb1 (i := 172) rfl
theorem am_k314 : Cond.methodLink RX6 56 yJ7_fill_53178 ∈ lw_tbl := am_tb4 (i := 203) rfl
theorem am_k315 : Cond.methodLink RX6 62 yX4_sorts ∈ lw_tbl := am_tb4 (i := 206) rfl
theorem am_k316 : Cond.methodLink RX6 68 yX6_makeSort ∈ lw_tbl := am_tb4 (i := 207) rfl
theorem am_k317 : Cond.methodLink RX6 72 yX9_clear ∈ lw_tbl := am_tb5 (i := 92) rfl
theorem am_k318 : Cond.methodLink RX6 75 yX4_things ∈ lw_tbl := am_tb5 (i := 89) rfl
theorem am_k319 : Cond.methodLink RX6 77 yX6_addTrips ∈ lw_tbl := am_tb5 (i := 97) rfl
theorem am_k320 : Cond.methodLink RX6 80 yX4_wantsOfSort ∈ lw_tbl := am_tb4 (i := 211) rfl
theorem am_k321 : Cond.methodLink RX6 84 yX4_thingsLeft ∈ lw_tbl := am_tb4 (i := 212) rfl
theorem am_k322 : Cond.methodLink RX6 88 yX1_most ∈ lw_tbl := am_tb4 (i := 213) rfl
theorem am_k323 : Cond.methodLink RX6 94 yX1_chosenBits ∈ lw_tbl := am_tb5 (i := 13) rfl
theorem am_k324 : Cond.methodLink RX6 97 yX4_hands ∈ lw_tbl := am_tb5 (i := 17) rfl
theorem am_k325 : Cond.methodLink RX6 100 yX2_leastGiven ∈ lw_tbl := am_tb5 (i := 18) rfl
theorem am_k326 : Cond.methodLink RX6 104 yX4_wants ∈ lw_tbl := am_tb5 (i := 80) rfl
theorem am_k327 : Cond.methodLink RX6 111 yX2_indexFor ∈ lw_tbl := am_tb5 (i := 82) rfl
theorem am_k328 : Cond.methodLink RX6 115 yX6_thingAt ∈ lw_tbl := am_tb5 (i := 85) rfl
theorem am_k329 : Cond.methodLink RX6 122 yX4_sortOfThing ∈ lw_tbl := am_tb5 (i := 90) rfl
theorem am_k330 : Cond.methodLink RX6 125 yX6_lineUp ∈ lw_tbl := am_tb5 (i := 101) rfl
theorem am_k331 : Cond.methodLink RX6 129 yX6_lined ∈ lw_tbl := am_tb5 (i := 111) rfl
theorem am_k332 : Cond.methodLink RX6 132 yX4_placeOfWant ∈ lw_tbl := am_tb5 (i := 115) rfl
theorem am_k333 : Cond.methodLink RX6 135 yX10_setPlace ∈ lw_tbl := am_tb5 (i := 116) rfl
theorem am_k334 : Cond.methodLink RX6 139 yX4_homeOf ∈ lw_tbl := am_tb5 (i := 117) rfl
theorem am_k335 : Cond.methodLink RX6 142 yX10_leastWay ∈ lw_tbl := am_tb5 (i := 118) rfl
theorem am_k336 : Cond.methodLink RX6 146 yX4_sortOfWant ∈ lw_tbl := am_tb5 (i := 119) rfl
theorem am_k337 : Cond.methodLink RX6 149 yX4_fromOf ∈ lw_tbl := am_tb5 (i := 120) rfl
theorem am_k338 : Cond.methodLink RX6 152 yX9_add ∈ lw_tbl := am_tb5 (i := 121) rfl
theorem am_k339 : Cond.methodLink RX6 156 yX10_isHomeBehind ∈ lw_tbl := am_tb5 (i := 127) rfl
theorem am_k340 : Cond.methodLink RX6 159 yX4_tillOf ∈ lw_tbl := am_tb5 (i := 131) rfl
theorem am_k341 : Cond.methodLink RX6 162 yX4_byFirstDay ∈ lw_tbl := am_tb5 (i := 105) rfl
theorem am_k342 : Cond.methodLink RX6 165 yX6_thingFor ∈ lw_tbl := am_tb5 (i := 106) rfl
theorem am_k343 : Cond.methodLink RX6 172 yX2_farOf ∈ lw_tbl := am_tb5 (i := 194) rfl
theorem am_k344 : Cond.methodLink RX6 186 yX4_weightOf ∈ lw_tbl := am_tb6 (i := 124) rfl
theorem am_k345 : Cond.methodLink RX7 32 yX4_clear ∈ lw_tbl := am_tb2 (i := 207) rfl
theorem am_k346 : Cond.methodLink RX7 37 yX7_step ∈ lw_tbl := am_tb2 (i := 211) rfl
theorem am_k347 : Cond.methodLink RX7 40 yX7_readLine ∈ lw_tbl := am_tb3 (i := 2) rfl
theorem am_k348 : Cond.methodLink RX7 44 yX4_people ∈ lw_tbl := am_tb3 (i := 59) rfl
theorem am_k349 : Cond.methodLink RX7 48 yX4_sorts ∈ lw_tbl := am_tb3 (i := 108) rfl
theorem am_k350 : Cond.methodLink RX7 51 yX8_size ∈ lw_tbl := am_tb2 (i := 215) rfl
theorem am_k351 : Cond.methodLink RX7 58 yX7_says ∈ lw_tbl := am_tb3 (i := 7) rfl
theorem am_k352 : Cond.methodLink RX7 62 yX7_readPerson ∈ lw_tbl := am_tb3 (i := 63) rfl
theorem am_k353 : Cond.methodLink RX7 67 yX7_readSort ∈ lw_tbl := am_tb3 (i := 112) rfl
theorem am_k354 : Cond.methodLink RX7 72 yX4_things ∈ lw_tbl := am_tb3 (i := 120) rfl
theorem am_k355 : Cond.methodLink RX7 75 yX7_readThing ∈ lw_tbl := am_tb3 (i := 124) rfl
theorem am_k356 : Cond.methodLink RX7 80 yX4_wants ∈ lw_tbl := am_tb3 (i := 152) rfl
theorem am_k357 : Cond.methodLink RX7 83 yX7_readWant ∈ lw_tbl := am_tb3 (i := 156) rfl
theorem am_k358 : Cond.methodLink RX7 88 yX4_handsTold ∈ lw_tbl := am_tb3 (i := 186) rfl
theorem am_k359 : Cond.methodLink RX7 92 yX7_readHands ∈ lw_tbl := am_tb3 (i := 190) rfl
theorem am_k360 : Cond.methodLink RX7 97 yX4_roadTold ∈ lw_tbl := am_tb3 (i := 198) rfl
theorem am_k361 : Cond.methodLink RX7 100 yX7_readRoad ∈ lw_tbl := am_tb3 (i := 202) rfl
theorem am_k362 : Cond.methodLink RX7 105 yX7_readHeir ∈ lw_tbl := am_tb3 (i := 210) rfl
theorem am_k363 : Cond.methodLink RX7 108 yX7_isNewName ∈ lw_tbl := am_tb3 (i := 67) rfl
theorem am_k364 : Cond.methodLink RX7 111 yX7_isNumber ∈ lw_tbl := am_tb3 (i := 92) rfl
theorem am_k365 : Cond.methodLink RX7 115 yX7_closes ∈ lw_tbl := am_tb3 (i := 96) rfl
theorem am_k366 : Cond.methodLink RX7 118 yX4_addPerson ∈ lw_tbl := am_tb3 (i := 100) rfl
theorem am_k367 : Cond.methodLink RX7 122 yX4_addSort ∈ lw_tbl := am_tb3 (i := 116) rfl
theorem am_k368 : Cond.methodLink RX7 125 yX7_sortHere ∈ lw_tbl := am_tb3 (i := 128) rfl
theorem am_k369 : Cond.methodLink RX7 129 yX4_thingsLeft ∈ lw_tbl := am_tb3 (i := 132) rfl
theorem am_k370 : Cond.methodLink RX7 133 yX7_personHere ∈ lw_tbl := am_tb3 (i := 144) rfl
theorem am_k371 : Cond.methodLink RX7 136 yX4_addThing ∈ lw_tbl := am_tb3 (i := 148) rfl
theorem am_k372 : Cond.methodLink RX7 140 yX4_wantsOfSort ∈ lw_tbl := am_tb3 (i := 160) rfl
theorem am_k373 : Cond.methodLink RX7 144 yJ6_bitCount_0f7a4 ∈ lw_tbl := am_tb3 (i := 168) rfl
theorem am_k374 : Cond.methodLink RX7 149 yX4_addWant ∈ lw_tbl := am_tb3 (i := 174) rfl
theorem am_k375 : Cond.methodLink RX7 153 yX4_tellHands ∈ lw_tbl := am_tb3 (i := 194) rfl
theorem am_k376 : Cond.methodLink RX7 157 yX4_tellRoad ∈ lw_tbl := am_tb3 (i := 206) rfl
theorem am_k377 : Cond.methodLink RX7 160 yX4_heirOf ∈ lw_tbl := am_tb3 (i := 214) rfl
theorem am_k378 : Cond.methodLink RX7 163 yX4_tellHeir ∈ lw_tbl := am_tb3 (i := 218) rfl
theorem am_k379 : Cond.methodLink RX7 168 yX7_isKept ∈ lw_tbl := am_tb3 (i := 71) rfl
theorem am_k380 : Cond.methodLink RX7 171 yX4_personNamed ∈ lw_tbl := am_tb3 (i := 81) rfl
theorem am_k381 : Cond.methodLink RX7 175 yX4_sortNamed ∈ lw_tbl := am_tb3 (i := 88) rfl
theorem am_k382 : Cond.methodLink RX7 178 yJ0_length_8abf5 ∈ lw_tbl := am_tb3 (i := 11) rfl
theorem am_k383 : Cond.methodLink RX7 183 yX8_byteAt ∈ lw_tbl := am_tb2 (i := 216) rfl
theorem am_k384 : Cond.methodLink RX7 186 yJ0_charAt_5068e ∈ lw_tbl := am_tb3 (i := 21) rfl
theorem am_k385 : Cond.methodLink RX7 190 yX7_isBlank ∈ lw_tbl := am_tb2 (i := 220) rfl
theorem am_k386 : Cond.methodLink RX7 194 yX7_isLetter ∈ lw_tbl := am_tb2 (i := 223) rfl
theorem am_k387 : Cond.methodLink RX7 197 yX7_takeWord ∈ lw_tbl := am_tb2 (i := 226) rfl
theorem am_k388 : Cond.methodLink RX7 200 yX7_isDigit ∈ lw_tbl := am_tb2 (i := 232) rfl
theorem am_k389 : Cond.methodLink RX7 203 yX7_takeNumber ∈ lw_tbl := am_tb2 (i := 235) rfl
theorem am_k390 : Cond.methodLink RX8 19 yX8_addByte ∈ lw_tbl := am_tb2 (i := 179) rfl
theorem am_k391 : Cond.methodLink RX9 37 yJ7_fill_53178 ∈ lw_tbl := am_tb5 (i := 96) rfl
theorem am_k392 : Cond.methodLink RX9 51 yX9_isOf ∈ lw_tbl := am_tb5 (i := 209) rfl
theorem am_k393 : Cond.methodLink RL 9 yX11_init ∈ lw_tbl := am_tb1 (i := 24) rfl
theorem am_k394 : Cond.methodLink RL 12 yX12_init ∈ lw_tbl := am_tb6 (i := 170) rfl
theorem am_k395 : Cond.methodLink RL 13 yX11_feed ∈ lw_tbl := am_tb2 (i := 157) rfl
theorem am_k396 : Cond.methodLink RL 17 yX12_feed ∈ lw_tbl := am_tb7 (i := 135) rfl
theorem am_k397 : Cond.methodLink RL 18 yX11_end ∈ lw_tbl := am_tb2 (i := 187) rfl
theorem am_k398 : Cond.methodLink RL 22 yX12_end ∈ lw_tbl := am_tb7 (i := 147) rfl
theorem am_k399 : Cond.methodLink RL 23 yX11_fault ∈ lw_tbl := am_tb2 (i := 199) rfl
theorem am_k400 : Cond.methodLink RL 27 yX12_fault ∈ lw_tbl := am_tb7 (i := 155) rfl
theorem am_k401 : Cond.methodLink RL 28 yX11_land ∈ lw_tbl := am_tb3 (i := 222) rfl
theorem am_k402 : Cond.methodLink RL 31 yX12_land ∈ lw_tbl := am_tb7 (i := 224) rfl
theorem am_k403 : Cond.methodLink RL 32 yX11_person ∈ lw_tbl := am_tb4 (i := 22) rfl
theorem am_k404 : Cond.methodLink RL 36 yX12_person ∈ lw_tbl := am_tb7 (i := 239) rfl
theorem am_k405 : Cond.methodLink RL 37 yX11_want ∈ lw_tbl := am_tb4 (i := 52) rfl
theorem am_k406 : Cond.methodLink RL 40 yX12_want ∈ lw_tbl := am_tb8 (i := 11) rfl
theorem am_k407 : Cond.methodLink RL 41 yX11_thing ∈ lw_tbl := am_tb4 (i := 74) rfl
theorem am_k408 : Cond.methodLink RL 44 yX12_thing ∈ lw_tbl := am_tb8 (i := 23) rfl
theorem am_k409 : Cond.methodLink RL 45 yX11_chain ∈ lw_tbl := am_tb4 (i := 91) rfl
theorem am_k410 : Cond.methodLink RL 49 yX12_chain ∈ lw_tbl := am_tb8 (i := 35) rfl
theorem am_k411 : Cond.methodLink RL 50 yX11_lend ∈ lw_tbl := am_tb4 (i := 96) rfl
theorem am_k412 : Cond.methodLink RL 53 yX12_lend ∈ lw_tbl := am_tb8 (i := 39) rfl
theorem am_k413 : Cond.methodLink RL 54 yX11_back ∈ lw_tbl := am_tb4 (i := 125) rfl
theorem am_k414 : Cond.methodLink RL 58 yX12_back ∈ lw_tbl := am_tb8 (i := 49) rfl
theorem am_k415 : Cond.methodLink RL 59 yX11_go ∈ lw_tbl := am_tb4 (i := 133) rfl
theorem am_k416 : Cond.methodLink RL 62 yX12_go ∈ lw_tbl := am_tb8 (i := 53) rfl
theorem am_k417 : Cond.methodLink RL 63 yX11_lose ∈ lw_tbl := am_tb4 (i := 149) rfl
theorem am_k418 : Cond.methodLink RL 66 yX12_lose ∈ lw_tbl := am_tb8 (i := 57) rfl
theorem am_k419 : Cond.methodLink RL 67 yX11_law ∈ lw_tbl := am_tb4 (i := 157) rfl
theorem am_k420 : Cond.methodLink RL 70 yX12_law ∈ lw_tbl := am_tb8 (i := 61) rfl
theorem am_k421 : Cond.methodLink RL 71 yX11_owes ∈ lw_tbl := am_tb4 (i := 165) rfl
theorem am_k422 : Cond.methodLink RL 74 yX12_owes ∈ lw_tbl := am_tb8 (i := 65) rfl
theorem am_k423 : Cond.methodLink RL 75 yX11_balance ∈ lw_tbl := am_tb4 (i := 182) rfl
theorem am_k424 : Cond.methodLink RL 78 yX12_balance ∈ lw_tbl := am_tb8 (i := 73) rfl
theorem am_k425 : Cond.methodLink RL 79 yX11_met ∈ lw_tbl := am_tb4 (i := 187) rfl
theorem am_k426 : Cond.methodLink RL 82 yX12_met ∈ lw_tbl := am_tb8 (i := 78) rfl
theorem am_k427 : Cond.methodLink RL 83 yX11_shorts ∈ lw_tbl := am_tb5 (i := 137) rfl
theorem am_k428 : Cond.methodLink RL 86 yX12_shorts ∈ lw_tbl := am_tb8 (i := 119) rfl
theorem am_k429 : Cond.methodLink RL 87 yX11_price ∈ lw_tbl := am_tb5 (i := 148) rfl
theorem am_k430 : Cond.methodLink RL 90 yX12_price ∈ lw_tbl := am_tb8 (i := 123) rfl
theorem am_k431 : Cond.methodLink RL 91 yX11_longer ∈ lw_tbl := am_tb5 (i := 166) rfl
theorem am_k432 : Cond.methodLink RL 94 yX12_longer ∈ lw_tbl := am_tb8 (i := 132) rfl
theorem am_k433 : Cond.methodLink RL 95 yX11_other ∈ lw_tbl := am_tb5 (i := 174) rfl
theorem am_k434 : Cond.methodLink RL 98 yX12_other ∈ lw_tbl := am_tb8 (i := 136) rfl
theorem am_k435 : Cond.methodLink RL 99 yX11_given ∈ lw_tbl := am_tb5 (i := 181) rfl
theorem am_k436 : Cond.methodLink RL 102 yX12_given ∈ lw_tbl := am_tb8 (i := 140) rfl
theorem am_k437 : Cond.methodLink RL 103 yX11_carry ∈ lw_tbl := am_tb5 (i := 186) rfl
theorem am_k438 : Cond.methodLink RL 106 yX12_carry ∈ lw_tbl := am_tb8 (i := 168) rfl
theorem am_k439 : Cond.methodLink RL 107 yX11_moves ∈ lw_tbl := am_tb5 (i := 197) rfl
theorem am_k440 : Cond.methodLink RL 110 yX12_moves_ ∈ lw_tbl := am_tb8 (i := 173) rfl
theorem am_k441 : Cond.methodLink RL 111 yX11_spread ∈ lw_tbl := am_tb5 (i := 222) rfl
theorem am_k442 : Cond.methodLink RL 114 yX12_spread ∈ lw_tbl := am_tb8 (i := 189) rfl
theorem am_k443 : Cond.methodLink RL 115 yX11_late ∈ lw_tbl := am_tb5 (i := 235) rfl
theorem am_k444 : Cond.methodLink RL 118 yX12_late ∈ lw_tbl := am_tb8 (i := 194) rfl
theorem am_k445 : Cond.methodLink RL 119 yX11_bears ∈ lw_tbl := am_tb6 (i := 26) rfl
theorem am_k446 : Cond.methodLink RL 122 yX12_bears ∈ lw_tbl := am_tb8 (i := 202) rfl
theorem am_k447 : Cond.methodLink RL 123 yX11_dies ∈ lw_tbl := am_tb6 (i := 35) rfl
theorem am_k448 : Cond.methodLink RL 126 yX12_dies ∈ lw_tbl := am_tb8 (i := 206) rfl
theorem am_k449 : Cond.methodLink RL 127 yX11_entry ∈ lw_tbl := am_tb6 (i := 54) rfl
theorem am_k450 : Cond.methodLink RL 130 yX12_entry ∈ lw_tbl := am_tb8 (i := 213) rfl
theorem am_k451 : Cond.methodLink RL 131 yX11_undo ∈ lw_tbl := am_tb6 (i := 67) rfl
theorem am_k452 : Cond.methodLink RL 134 yX12_undo ∈ lw_tbl := am_tb8 (i := 217) rfl
theorem am_k453 : Cond.methodLink RL 135 yX11_earth ∈ lw_tbl := am_tb6 (i := 75) rfl
theorem am_k454 : Cond.methodLink RL 138 yX12_earth ∈ lw_tbl := am_tb8 (i := 221) rfl
theorem am_k455 : Cond.methodLink RL 139 yX11_years ∈ lw_tbl := am_tb6 (i := 110) rfl
theorem am_k456 : Cond.methodLink RL 142 yX12_years ∈ lw_tbl := am_tb8 (i := 234) rfl
theorem am_k457 : Cond.methodLink RL 143 yX11_image ∈ lw_tbl := am_tb6 (i := 125) rfl
theorem am_k458 : Cond.methodLink RL 146 yX12_image ∈ lw_tbl := am_tb9 (i := 9) rfl
theorem am_k459 : Cond.methodLink RL 147 yX11_on ∈ lw_tbl := am_tb6 (i := 140) rfl
theorem am_k460 : Cond.methodLink RL 150 yX12_on ∈ lw_tbl := am_tb9 (i := 21) rfl
theorem am_k461 : Cond.methodLink RL 151 yX11_status ∈ lw_tbl := am_tb6 (i := 148) rfl
theorem am_k462 : Cond.methodLink RL 154 yX12_status ∈ lw_tbl := am_tb7 (i := 127) rfl
theorem am_k463 : Cond.methodLink RL 155 yX11_count ∈ lw_tbl := am_tb6 (i := 152) rfl
theorem am_k464 : Cond.methodLink RL 158 yX12_count ∈ lw_tbl := am_tb9 (i := 25) rfl
theorem am_k465 : Cond.methodLink RX12 148 yX12_in ∈ lw_tbl := am_tb7 (i := 132) rfl
theorem am_k466 : Cond.methodLink RX12 155 yX12_refuse ∈ lw_tbl := am_tb7 (i := 139) rfl
theorem am_k467 : Cond.methodLink RX12 159 yX12_feeds ∈ lw_tbl := am_tb7 (i := 143) rfl
theorem am_k468 : Cond.methodLink RX12 163 yX12_deny ∈ lw_tbl := am_tb7 (i := 151) rfl
theorem am_k469 : Cond.methodLink RX12 173 yX12_between ∈ lw_tbl := am_tb7 (i := 167) rfl
theorem am_k470 : Cond.methodLink RX12 180 yX12_next ∈ lw_tbl := am_tb7 (i := 163) rfl
theorem am_k471 : Cond.methodLink RX12 183 yJ0_length_8abf5 ∈ lw_tbl := am_tb7 (i := 179) rfl
theorem am_k472 : Cond.methodLink RX12 187 yJ0_charAt_5068e ∈ lw_tbl := am_tb7 (i := 180) rfl
theorem am_k473 : Cond.methodLink RX12 191 yX12_passes ∈ lw_tbl := am_tb7 (i := 181) rfl
theorem am_k474 : Cond.methodLink RX12 198 yX12_wordHere ∈ lw_tbl := am_tb7 (i := 175) rfl
theorem am_k475 : Cond.methodLink RX12 207 yX12_nameHere ∈ lw_tbl := am_tb7 (i := 189) rfl
theorem am_k476 : Cond.methodLink RX12 211 yX12_found ∈ lw_tbl := am_tb7 (i := 196) rfl
theorem am_k477 : Cond.methodLink RX12 215 yX12_ofSort ∈ lw_tbl := am_tb7 (i := 212) rfl
theorem am_k478 : Cond.methodLink RX12 219 yX12_closes ∈ lw_tbl := am_tb7 (i := 204) rfl
theorem am_k479 : Cond.methodLink RX12 223 yX12_into ∈ lw_tbl := am_tb7 (i := 200) rfl
theorem am_k480 : Cond.methodLink RX12 227 yX12_isNew ∈ lw_tbl := am_tb7 (i := 185) rfl
theorem am_k481 : Cond.methodLink RX12 230 yX12_thingRead ∈ lw_tbl := am_tb7 (i := 208) rfl
theorem am_k482 : Cond.methodLink RX12 233 yX12_wantRead ∈ lw_tbl := am_tb7 (i := 216) rfl
theorem am_k483 : Cond.methodLink RX12 243 yX12_heirRead ∈ lw_tbl := am_tb7 (i := 220) rfl
theorem am_k484 : Cond.methodLink RX12 246 yX12_line ∈ lw_tbl := am_tb7 (i := 171) rfl
theorem am_k485 : Cond.methodLink RX12 248 yX12_reads ∈ lw_tbl := am_tb7 (i := 159) rfl
theorem am_k486 : Cond.methodLink RX12 251 yX12_copies ∈ lw_tbl := am_tb7 (i := 228) rfl
theorem am_k487 : Cond.methodLink RX12 270 yX12_things ∈ lw_tbl := am_tb7 (i := 231) rfl
theorem am_k488 : Cond.methodLink RX12 273 yX12_people ∈ lw_tbl := am_tb7 (i := 235) rfl
theorem am_k489 : Cond.methodLink RX12 276 yX12_sorts ∈ lw_tbl := am_tb8 (i := 86) rfl
theorem am_k490 : Cond.methodLink RX12 279 yX12_wants ∈ lw_tbl := am_tb8 (i := 19) rfl
theorem am_k491 : Cond.methodLink RX12 287 yX12_isPerson ∈ lw_tbl := am_tb8 (i := 3) rfl
theorem am_k492 : Cond.methodLink RX12 290 yX12_holder ∈ lw_tbl := am_tb8 (i := 7) rfl
theorem am_k493 : Cond.methodLink RX12 293 yX12_isWant ∈ lw_tbl := am_tb8 (i := 15) rfl
theorem am_k494 : Cond.methodLink RX12 296 yX12_isThing ∈ lw_tbl := am_tb8 (i := 27) rfl
theorem am_k495 : Cond.methodLink RX12 299 yX12_till ∈ lw_tbl := am_tb8 (i := 31) rfl
theorem am_k496 : Cond.methodLink RX12 304 yX12_far ∈ lw_tbl := am_tb8 (i := 44) rfl
theorem am_k497 : Cond.methodLink RX12 308 yX12_owedOf ∈ lw_tbl := am_tb8 (i := 69) rfl
theorem am_k498 : Cond.methodLink RX12 315 yX12_endOf ∈ lw_tbl := am_tb8 (i := 115) rfl
theorem am_k499 : Cond.methodLink RX12 318 yX12_worthOf ∈ lw_tbl := am_tb8 (i := 106) rfl
theorem am_k500 : Cond.methodLink RX12 321 yJ6_bitCount_0f7a4 ∈ lw_tbl := am_tb8 (i := 110) rfl
theorem am_k501 : Cond.methodLink RX12 326 yX12_canMeet ∈ lw_tbl := am_tb8 (i := 111) rfl
theorem am_k502 : Cond.methodLink RX12 330 yX12_bitsOf ∈ lw_tbl := am_tb8 (i := 94) rfl
theorem am_k503 : Cond.methodLink RX12 333 yX12_thingsOf ∈ lw_tbl := am_tb8 (i := 98) rfl
theorem am_k504 : Cond.methodLink RX12 336 yX12_bestHeap ∈ lw_tbl := am_tb8 (i := 102) rfl
theorem am_k505 : Cond.methodLink RX12 340 yX12_bestOf ∈ lw_tbl := am_tb8 (i := 90) rfl
theorem am_k506 : Cond.methodLink RX12 343 yX12_metBits ∈ lw_tbl := am_tb8 (i := 82) rfl
theorem am_k507 : Cond.methodLink RX12 346 yX12_isSort ∈ lw_tbl := am_tb8 (i := 127) rfl
theorem am_k508 : Cond.methodLink RX12 357 yX12_whoAt ∈ lw_tbl := am_tb8 (i := 160) rfl
theorem am_k509 : Cond.methodLink RX12 363 yX12_laysRow ∈ lw_tbl := am_tb8 (i := 152) rfl
theorem am_k510 : Cond.methodLink RX12 367 yX12_wayOf ∈ lw_tbl := am_tb8 (i := 156) rfl
theorem am_k511 : Cond.methodLink RX12 373 yX12_isFree ∈ lw_tbl := am_tb8 (i := 164) rfl
theorem am_k512 : Cond.methodLink RX12 376 yX12_givesFrom ∈ lw_tbl := am_tb8 (i := 148) rfl
theorem am_k513 : Cond.methodLink RX12 380 yX12_gives ∈ lw_tbl := am_tb8 (i := 144) rfl
theorem am_k514 : Cond.methodLink RX12 389 yX12_givesAll ∈ lw_tbl := am_tb8 (i := 181) rfl
theorem am_k515 : Cond.methodLink RX12 392 yX12_moves ∈ lw_tbl := am_tb8 (i := 185) rfl
theorem am_k516 : Cond.methodLink RX12 396 yX12_laysMoves ∈ lw_tbl := am_tb8 (i := 177) rfl
theorem am_k517 : Cond.methodLink RX12 408 yX12_hurts ∈ lw_tbl := am_tb8 (i := 198) rfl
theorem am_k518 : Cond.methodLink RX12 414 yX12_areTrue ∈ lw_tbl := am_tb8 (i := 230) rfl
theorem am_k519 : Cond.methodLink RX12 419 yX12_trueBits ∈ lw_tbl := am_tb8 (i := 226) rfl
theorem am_k520 : Cond.methodLink RX12 440 yX12_lot ∈ lw_tbl := am_tb9 (i := 1) rfl
theorem am_k521 : Cond.methodLink RX12 446 yX12_move ∈ lw_tbl := am_tb9 (i := 17) rfl
theorem am_k522 : Cond.methodLink RX12 450 yX12_moveAll ∈ lw_tbl := am_tb9 (i := 13) rfl
theorem am_k523 : Cond.methodLink RJ0 335 yJ0_coder_7d493 ∈ lw_tbl := am_tb3 (i := 15) rfl
theorem am_k524 : Cond.methodLink RJ0 492 yJ0_isLatin1_aae02 ∈ lw_tbl := am_tb3 (i := 25) rfl
theorem am_k525 : Cond.methodLink RJ0 495 yJ1_charAt_3b067 ∈ lw_tbl := am_tb3 (i := 29) rfl
theorem am_k526 : Cond.methodLink RJ0 1059 yJ3_checkIndex_8e157 ∈ lw_tbl := am_tb3 (i := 37) rfl
theorem am_k527 : Cond.methodLink RJ1 9 yJ0_checkIndex_df160 ∈ lw_tbl := am_tb3 (i := 32) rfl
theorem am_k528 : Cond.methodLink "java/lang/StringUTF16" 414 yJ0_checkIndex_df160 ∈ lw_tbl := am_tb3 (i := 49) rfl
theorem am_k529 : Cond.methodLinkNest RX11 9 yX8_init "OnlyLent" ∈ lw_tbl := am_tb1 (i := 32) rfl
theorem am_k530 : Cond.methodLinkNest RX11 27 yX3_init "OnlyLent" ∈ lw_tbl := am_tb1 (i := 71) rfl
theorem am_k531 : Cond.methodLinkNest RX11 38 yX1_init "OnlyLent" ∈ lw_tbl := am_tb1 (i := 104) rfl
theorem am_k532 : Cond.methodLinkNest RX11 54 yX5_init "OnlyLent" ∈ lw_tbl := am_tb2 (i := 14) rfl
theorem am_k533 : Cond.methodLinkNest RX11 61 yX0_init "OnlyLent" ∈ lw_tbl := am_tb2 (i := 27) rfl
theorem am_k534 : Cond.methodLinkNest RX11 72 yX4_init "OnlyLent" ∈ lw_tbl := am_tb2 (i := 58) rfl
theorem am_k535 : Cond.methodLinkNest RX0 38 yX11_put "OnlyLent" ∈ lw_tbl := am_tb6 (i := 66) rfl
theorem am_k536 : Cond.methodLinkNest RX0 55 yX11_hasBit "OnlyLent" ∈ lw_tbl := am_tb6 (i := 92) rfl
theorem am_k537 : Cond.methodLinkNest RX0 58 yX11_at "OnlyLent" ∈ lw_tbl := am_tb6 (i := 93) rfl
theorem am_k538 : Cond.methodLinkNest RX1 75 yX11_hasBit "OnlyLent" ∈ lw_tbl := am_tb4 (i := 226) rfl
theorem am_k539 : Cond.methodLinkNest RX1 92 yX11_put "OnlyLent" ∈ lw_tbl := am_tb4 (i := 235) rfl
theorem am_k540 : Cond.methodLinkNest RX1 96 yX11_at "OnlyLent" ∈ lw_tbl := am_tb4 (i := 234) rfl
theorem am_k541 : Cond.methodLinkNest RX2 48 yX11_put_ "OnlyLent" ∈ lw_tbl := am_tb5 (i := 35) rfl
theorem am_k542 : Cond.methodLinkNest RX2 59 yX11_hasBit "OnlyLent" ∈ lw_tbl := am_tb5 (i := 29) rfl
theorem am_k543 : Cond.methodLinkNest RX2 73 yX11_at_ "OnlyLent" ∈ lw_tbl := am_tb5 (i := 76) rfl
theorem am_k544 : Cond.methodLinkNest RX2 85 yX11_put "OnlyLent" ∈ lw_tbl := am_tb5 (i := 30) rfl
theorem am_k545 : Cond.methodLinkNest RX2 88 yX11_at "OnlyLent" ∈ lw_tbl := am_tb5 (i := 46) rfl
theorem am_k546 : Cond.methodLinkNest RX3 44 yX11_put "OnlyLent" ∈ lw_tbl := am_tb3 (i := 231) rfl
theorem am_k547 : Cond.methodLinkNest RX3 62 yX11_hasBit "OnlyLent" ∈ lw_tbl := am_tb4 (i := 43) rfl
theorem am_k548 : Cond.methodLinkNest RX3 66 yX11_at "OnlyLent" ∈ lw_tbl := am_tb4 (i := 4) rfl
theorem am_k549 : Cond.methodLinkNest RX4 71 yX11_put_ "OnlyLent" ∈ lw_tbl := am_tb3 (i := 104) rfl
theorem am_k550 : Cond.methodLinkNest RX4 75 yX11_put "OnlyLent" ∈ lw_tbl := am_tb3 (i := 107) rfl
theorem am_k551 : Cond.methodLinkNest RX4 82 yX11_at "OnlyLent" ∈ lw_tbl := am_tb3 (i := 140) rfl
theorem am_k552 : Cond.methodLinkNest RX4 90 yX11_at_ "OnlyLent" ∈ lw_tbl := am_tb3 (i := 85) rfl
theorem am_k553 : Cond.methodLinkNest RX4 111 yX11_hasBit "OnlyLent" ∈ lw_tbl := am_tb3 (i := 141) rfl
theorem am_k554 : Cond.methodLinkNest RX6 11 yX10_init "OnlyLent" ∈ lw_tbl := am_tb1 (i := 159) rfl
theorem am_k555 : Cond.methodLinkNest RX6 29 yX9_init "OnlyLent" ∈ lw_tbl := am_tb1 (i := 195) rfl
theorem am_k556 : Cond.methodLinkNest RX6 107 yX11_hasBit "OnlyLent" ∈ lw_tbl := am_tb5 (i := 81) rfl
theorem am_k557 : Cond.methodLinkNest RX6 118 yX11_put "OnlyLent" ∈ lw_tbl := am_tb5 (i := 91) rfl
theorem am_k558 : Cond.methodLinkNest RX6 168 yX11_at "OnlyLent" ∈ lw_tbl := am_tb5 (i := 110) rfl
theorem am_k559 : Cond.methodLinkNest RX9 43 yX11_put "OnlyLent" ∈ lw_tbl := am_tb5 (i := 125) rfl
theorem am_k560 : Cond.methodLinkNest RX9 47 yX11_at "OnlyLent" ∈ lw_tbl := am_tb5 (i := 126) rfl
theorem am_k561 : Cond.methodLinkNest RX10 18 yX11_put "OnlyLent" ∈ lw_tbl := am_tb5 (i := 57) rfl
theorem am_k562 : Cond.methodLinkNest RX10 22 yX11_at "OnlyLent" ∈ lw_tbl := am_tb5 (i := 65) rfl
theorem am_k563 : Cond.methodLinkNest RX10 37 yX11_hasBit "OnlyLent" ∈ lw_tbl := am_tb5 (i := 130) rfl
theorem am_k564 : Cond.methodLink RX11 1 objectInit ∈ lw_tbl := am_tb1 (i := 27) rfl
theorem am_k565 : Cond.methodLink RX0 3 objectInit ∈ lw_tbl := am_tb2 (i := 30) rfl
theorem am_k566 : Cond.methodLink RX1 3 objectInit ∈ lw_tbl := am_tb1 (i := 107) rfl
theorem am_k567 : Cond.methodLink RX2 3 objectInit ∈ lw_tbl := am_tb1 (i := 175) rfl
theorem am_k568 : Cond.methodLink RX2 113 Lib.MathLoose.min_long.x ∈ lw_tbl := am_tb5 (i := 77) rfl
theorem am_k569 : Cond.methodLink RX3 3 objectInit ∈ lw_tbl := am_tb1 (i := 74) rfl
theorem am_k570 : Cond.methodLink RX3 56 arraycopyName ∈ lw_tbl := am_tb6 (i := 137) rfl
theorem am_k571 : Cond.methodLink RX4 3 objectInit ∈ lw_tbl := am_tb2 (i := 61) rfl
theorem am_k572 : Cond.methodLink RX4 96 Lib.Math.abs.name ∈ lw_tbl := am_tb4 (i := 122) rfl
theorem am_k573 : Cond.methodLink RX4 107 Lib.Math.min.name ∈ lw_tbl := am_tb6 (i := 16) rfl
theorem am_k574 : Cond.methodLink RX5 3 objectInit ∈ lw_tbl := am_tb2 (i := 17) rfl
theorem am_k575 : Cond.methodLink RX5 51 Lib.Math.min.name ∈ lw_tbl := am_tb6 (i := 34) rfl
theorem am_k576 : Cond.methodLink RX6 3 objectInit ∈ lw_tbl := am_tb1 (i := 156) rfl
theorem am_k577 : Cond.methodLink RX7 3 objectInit ∈ lw_tbl := am_tb1 (i := 49) rfl
theorem am_k578 : Cond.methodLink RX7 208 Lib.Math.min.name ∈ lw_tbl := am_tb2 (i := 239) rfl
theorem am_k579 : Cond.methodLink RX8 3 objectInit ∈ lw_tbl := am_tb1 (i := 35) rfl
theorem am_k580 : Cond.methodLink RX9 3 objectInit ∈ lw_tbl := am_tb1 (i := 198) rfl
theorem am_k581 : Cond.methodLink RX9 55 Lib.Math.abs.name ∈ lw_tbl := am_tb5 (i := 217) rfl
theorem am_k582 : Cond.methodLink RX9 61 Lib.Math.min.name ∈ lw_tbl := am_tb5 (i := 234) rfl
theorem am_k583 : Cond.methodLink RX10 3 objectInit ∈ lw_tbl := am_tb1 (i := 162) rfl
theorem am_k584 : Cond.methodLink RX10 27 Lib.Math.abs.name ∈ lw_tbl := am_tb5 (i := 67) rfl
theorem am_k585 : Cond.methodLink RX10 33 Lib.Math.min.name ∈ lw_tbl := am_tb5 (i := 68) rfl
theorem am_k586 : Cond.methodLink RX12 1 objectInit ∈ lw_tbl := am_tb6 (i := 173) rfl
theorem am_k587 : Cond.methodLink RX12 282 Lib.Math.abs.name ∈ lw_tbl := am_tb8 (i := 48) rfl
theorem am_k588 : Cond.methodLink RX12 399 Lib.Math.min.name ∈ lw_tbl := am_tb8 (i := 193) rfl
theorem am_k589 : Cond.methodLink RX12 411 Lib.Math.max.name ∈ lw_tbl := am_tb8 (i := 210) rfl
theorem am_k590 : Cond.classLink RX11 7 RX8 ∈ lw_tbl := am_tb1 (i := 30) rfl
theorem am_k591 : Cond.classLink RX11 16 RX7 ∈ lw_tbl := am_tb1 (i := 44) rfl
theorem am_k592 : Cond.classLink RX11 25 RX3 ∈ lw_tbl := am_tb1 (i := 69) rfl
theorem am_k593 : Cond.classLink RX11 36 RX1 ∈ lw_tbl := am_tb1 (i := 102) rfl
theorem am_k594 : Cond.classLink RX11 43 RX6 ∈ lw_tbl := am_tb1 (i := 151) rfl
theorem am_k595 : Cond.classLink RX11 52 RX5 ∈ lw_tbl := am_tb2 (i := 12) rfl
theorem am_k596 : Cond.classLink RX11 59 RX0 ∈ lw_tbl := am_tb2 (i := 25) rfl
theorem am_k597 : Cond.classLink RX11 70 RX4 ∈ lw_tbl := am_tb2 (i := 56) rfl
theorem am_k598 : Cond.classLink RX6 9 RX10 ∈ lw_tbl := am_tb1 (i := 157) rfl
theorem am_k599 : Cond.classLink RX6 18 RX2 ∈ lw_tbl := am_tb1 (i := 170) rfl
theorem am_k600 : Cond.classLink RX6 27 RX9 ∈ lw_tbl := am_tb1 (i := 193) rfl
theorem am_k601 : Cond.classLink RL 7 RX11 ∈ lw_tbl := am_tb1 (i := 22) rfl
theorem am_k602 : Cond.classLink RL 10 RX12 ∈ lw_tbl := am_tb6 (i := 168) rfl
theorem am_k603 : Cond.classLink RX11 25 "OnlyLent$Holdings" ∈ lw_tbl := am_tb1 (i := 69) rfl
theorem am_k604 : Cond.classLink RX12 17 "[[I" ∈ lw_tbl := am_tb6 (i := 174) rfl
theorem am_k605 : Cond.classLink RX12 56 "java/lang/String" ∈ lw_tbl := am_tb6 (i := 176) rfl
theorem am_k606 : Cond.constant RX11 212 (Int32.ofInt (-2147483648)) ∈ lw_tbl := am_tb4 (i := 186) rfl
theorem am_k607 : Cond.constant RX11 332 (Int32.ofInt (1000000)) ∈ lw_tbl := am_tb6 (i := 114) rfl
theorem am_k608 : Cond.constant RX10 26 (Int32.ofInt (1073741824)) ∈ lw_tbl := am_tb5 (i := 66) rfl
theorem am_k609 : Cond.constant RX12 311 (Int32.ofInt (-2147483648)) ∈ lw_tbl := am_tb8 (i := 77) rfl
theorem am_k610 : Cond.constant RJ6 265 (Int32.ofInt (1431655765)) ∈ lw_tbl := am_tb3 (i := 171) rfl
theorem am_k611 : Cond.constant RJ6 266 (Int32.ofInt (858993459)) ∈ lw_tbl := am_tb3 (i := 172) rfl
theorem am_k612 : Cond.constant RJ6 267 (Int32.ofInt (252645135)) ∈ lw_tbl := am_tb3 (i := 173) rfl
theorem am_k613 : Cond.constantLong RX2 40 (Int64.ofInt (1152921504606846976)) ∈ lw_tbl := am_tb5 (i := 31) rfl
theorem am_k614 : Cond.constantLong RX6 176 (Int64.ofInt (1103515245)) ∈ lw_tbl := am_tb6 (i := 119) rfl
theorem am_k615 : Cond.constantLong RX6 178 (Int64.ofInt (12345)) ∈ lw_tbl := am_tb6 (i := 120) rfl
theorem am_k616 : Cond.constantLong RX6 180 (Int64.ofInt (2147483647)) ∈ lw_tbl := am_tb6 (i := 121) rfl
theorem am_k617 : Cond.constantLong RX6 182 (Int64.ofInt (256)) ∈ lw_tbl := am_tb6 (i := 122) rfl
theorem am_k618 : Cond.constantLong RX6 184 (Int64.ofInt (64)) ∈ lw_tbl := am_tb6 (i := 123) rfl
theorem am_k619 : Cond.constantLong RX7 166 (Int64.ofInt (-1)) ∈ lw_tbl := am_tb2 (i := 231) rfl
theorem am_k620 : Cond.constantLong RX7 206 (Int64.ofInt (32)) ∈ lw_tbl := am_tb2 (i := 230) rfl
theorem am_k621 : Cond.constantLong RX12 146 (Int64.ofInt (2)) ∈ lw_tbl := am_tb7 (i := 131) rfl
theorem am_k622 : Cond.constantLong RX12 201 (Int64.ofInt (-1)) ∈ lw_tbl := am_tb7 (i := 193) rfl
theorem am_k623 : Cond.constantLong RX12 203 (Int64.ofInt (32)) ∈ lw_tbl := am_tb7 (i := 194) rfl
theorem am_k624 : Cond.constantLong RX12 205 (Int64.ofInt (97)) ∈ lw_tbl := am_tb7 (i := 195) rfl
theorem am_k625 : Cond.constantLong RX12 302 (Int64.ofInt (60)) ∈ lw_tbl := am_tb8 (i := 43) rfl
theorem am_k626 : Cond.constantLong RX12 349 (Int64.ofInt (59)) ∈ lw_tbl := am_tb8 (i := 131) rfl
theorem am_k627 : Cond.constantLong RX12 384 (Int64.ofInt (9)) ∈ lw_tbl := am_tb8 (i := 172) rfl
theorem am_k628 : Cond.constantLong RX12 417 (Int64.ofInt (3)) ∈ lw_tbl := am_tb8 (i := 225) rfl
theorem am_k629 : Cond.constantLong RX12 426 (Int64.ofInt (1103515245)) ∈ lw_tbl := am_tb9 (i := 5) rfl
theorem am_k630 : Cond.constantLong RX12 428 (Int64.ofInt (12345)) ∈ lw_tbl := am_tb9 (i := 6) rfl
theorem am_k631 : Cond.constantLong RX12 430 (Int64.ofInt (2147483647)) ∈ lw_tbl := am_tb9 (i := 7) rfl
theorem am_k632 : Cond.constantLong RX12 432 (Int64.ofInt (256)) ∈ lw_tbl := am_tb9 (i := 8) rfl
theorem am_k633 : Cond.constantLong RX12 434 (Int64.ofInt (1000000)) ∈ lw_tbl := am_tb8 (i := 238) rfl
theorem am_k634 : Cond.constantLong RX12 436 (Int64.ofInt (20)) ∈ lw_tbl := am_tb8 (i := 239) rfl
theorem am_k635 : Cond.constantLong RX12 438 (Int64.ofInt (64)) ∈ lw_tbl := am_tb9 (i := 0) rfl
theorem am_k636 : Cond.stringRef RX7 56 "person" ∈ lw_tbl := am_tb3 (i := 6) rfl
theorem am_k637 : Cond.stringRef RX7 65 "sort" ∈ lw_tbl := am_tb3 (i := 75) rfl
theorem am_k638 : Cond.stringRef RX7 70 "thing" ∈ lw_tbl := am_tb3 (i := 76) rfl
theorem am_k639 : Cond.stringRef RX7 78 "want" ∈ lw_tbl := am_tb3 (i := 77) rfl
theorem am_k640 : Cond.stringRef RX7 86 "hands" ∈ lw_tbl := am_tb3 (i := 78) rfl
theorem am_k641 : Cond.stringRef RX7 95 "road" ∈ lw_tbl := am_tb3 (i := 79) rfl
theorem am_k642 : Cond.stringRef RX7 103 "heir" ∈ lw_tbl := am_tb3 (i := 80) rfl
theorem am_k643 : Cond.stringRef RX12 58 "person" ∈ lw_tbl := am_tb6 (i := 178) rfl
theorem am_k644 : Cond.stringRef RX12 60 "sort" ∈ lw_tbl := am_tb6 (i := 179) rfl
theorem am_k645 : Cond.stringRef RX12 62 "thing" ∈ lw_tbl := am_tb6 (i := 180) rfl
theorem am_k646 : Cond.stringRef RX12 64 "want" ∈ lw_tbl := am_tb6 (i := 181) rfl
theorem am_k647 : Cond.stringRef RX12 66 "hands" ∈ lw_tbl := am_tb6 (i := 182) rfl
theorem am_k648 : Cond.stringRef RX12 68 "road" ∈ lw_tbl := am_tb6 (i := 183) rfl
theorem am_k649 : Cond.stringRef RX12 70 "heir" ∈ lw_tbl := am_tb6 (i := 184) rfl
theorem am_k650 : Cond.fieldLink RJ0 38 "java/lang/String" "COMPACT_STRINGS" "Z" ∈ lw_tbl := am_tb3 (i := 19) rfl
theorem am_k651 : Cond.fieldLink RJ0 1053 "jdk/internal/util/Preconditions" "SIOOBE_FORMATTER" "Ljava/util/function/BiFunction;" ∈ lw_tbl := am_tb3 (i := 35) rfl
theorem am_k652 : Cond.code yX0_init cX0_init 1 none ∈ lw_tbl := am_tb2 (i := 29) rfl
theorem am_k653 : Cond.instanceMethod yX0_init ∈ lw_tbl := am_tb2 (i := 28) rfl
theorem am_k654 : Cond.code yX0_clear cX0_clear 1 none ∈ lw_tbl := am_tb4 (i := 16) rfl
theorem am_k655 : Cond.instanceMethod yX0_clear ∈ lw_tbl := am_tb4 (i := 14) rfl
theorem am_k656 : Cond.selects RX0 yX0_clear yX0_clear ∈ lw_tbl := am_tb4 (i := 15) rfl
theorem am_k657 : Cond.code yX0_entries cX0_entries 1 (some (.int)) ∈ lw_tbl := am_tb6 (i := 61) rfl
theorem am_k658 : Cond.instanceMethod yX0_entries ∈ lw_tbl := am_tb6 (i := 59) rfl
theorem am_k659 : Cond.selects RX0 yX0_entries yX0_entries ∈ lw_tbl := am_tb6 (i := 60) rfl
theorem am_k660 : Cond.code yX0_write cX0_write 3 none ∈ lw_tbl := am_tb6 (i := 65) rfl
theorem am_k661 : Cond.instanceMethod yX0_write ∈ lw_tbl := am_tb6 (i := 63) rfl
theorem am_k662 : Cond.selects RX0 yX0_write yX0_write ∈ lw_tbl := am_tb6 (i := 64) rfl
theorem am_k663 : Cond.code yX0_strike cX0_strike 1 none ∈ lw_tbl := am_tb6 (i := 74) rfl
theorem am_k664 : Cond.instanceMethod yX0_strike ∈ lw_tbl := am_tb6 (i := 72) rfl
theorem am_k665 : Cond.selects RX0 yX0_strike yX0_strike ∈ lw_tbl := am_tb6 (i := 73) rfl
theorem am_k666 : Cond.code yX0_seek cX0_seek 6 none ∈ lw_tbl := am_tb6 (i := 82) rfl
theorem am_k667 : Cond.instanceMethod yX0_seek ∈ lw_tbl := am_tb6 (i := 80) rfl
theorem am_k668 : Cond.selects RX0 yX0_seek yX0_seek ∈ lw_tbl := am_tb6 (i := 81) rfl
theorem am_k669 : Cond.code yX0_mostTrue cX0_mostTrue 4 (some (.int)) ∈ lw_tbl := am_tb6 (i := 86) rfl
theorem am_k670 : Cond.instanceMethod yX0_mostTrue ∈ lw_tbl := am_tb6 (i := 85) rfl
theorem am_k671 : Cond.selects RX0 yX0_mostTrue yX0_mostTrue ∈ lw_tbl := am_tp3 (i := 11) (q := (yX0_mostTrue, 8)) rfl
theorem am_k672 : Cond.code yX0_areTrue cX0_areTrue 6 (some (.boolean)) ∈ lw_tbl := am_tb6 (i := 91) rfl
theorem am_k673 : Cond.instanceMethod yX0_areTrue ∈ lw_tbl := am_tb6 (i := 90) rfl
theorem am_k674 : Cond.selects RX0 yX0_areTrue yX0_areTrue ∈ lw_tbl := am_tp3 (i := 12) (q := (yX0_areTrue, 8)) rfl
theorem am_k675 : Cond.code yX0_placeInRow cX0_placeInRow 4 (some (.int)) ∈ lw_tbl := am_tb6 (i := 97) rfl
theorem am_k676 : Cond.instanceMethod yX0_placeInRow ∈ lw_tbl := am_tb6 (i := 96) rfl
theorem am_k677 : Cond.selects RX0 yX0_placeInRow yX0_placeInRow ∈ lw_tbl := am_tp3 (i := 13) (q := (yX0_placeInRow, 8)) rfl
theorem am_k678 : Cond.code yX0_first cX0_first 1 (some (.int)) ∈ lw_tbl := am_tb6 (i := 101) rfl
theorem am_k679 : Cond.instanceMethod yX0_first ∈ lw_tbl := am_tb6 (i := 99) rfl
theorem am_k680 : Cond.selects RX0 yX0_first yX0_first ∈ lw_tbl := am_tb6 (i := 100) rfl
theorem am_k681 : Cond.code yX0_trueBits cX0_trueBits 1 (some (.int)) ∈ lw_tbl := am_tb6 (i := 105) rfl
theorem am_k682 : Cond.instanceMethod yX0_trueBits ∈ lw_tbl := am_tb6 (i := 103) rfl
theorem am_k683 : Cond.selects RX0 yX0_trueBits yX0_trueBits ∈ lw_tbl := am_tb6 (i := 104) rfl
theorem am_k684 : Cond.code yX0_rivalBits cX0_rivalBits 1 (some (.int)) ∈ lw_tbl := am_tb6 (i := 109) rfl
theorem am_k685 : Cond.instanceMethod yX0_rivalBits ∈ lw_tbl := am_tb6 (i := 107) rfl
theorem am_k686 : Cond.selects RX0 yX0_rivalBits yX0_rivalBits ∈ lw_tbl := am_tb6 (i := 108) rfl
theorem am_k687 : Cond.code yX1_init cX1_init 1 none ∈ lw_tbl := am_tb1 (i := 106) rfl
theorem am_k688 : Cond.instanceMethod yX1_init ∈ lw_tbl := am_tb1 (i := 105) rfl
theorem am_k689 : Cond.code yX1_setMoreOn cX1_setMoreOn 2 none ∈ lw_tbl := am_tb5 (i := 159) rfl
theorem am_k690 : Cond.instanceMethod yX1_setMoreOn ∈ lw_tbl := am_tb5 (i := 157) rfl
theorem am_k691 : Cond.selects RX1 yX1_setMoreOn yX1_setMoreOn ∈ lw_tbl := am_tb5 (i := 158) rfl
theorem am_k692 : Cond.code yX1_setLonger cX1_setLonger 3 none ∈ lw_tbl := am_tb5 (i := 173) rfl
theorem am_k693 : Cond.instanceMethod yX1_setLonger ∈ lw_tbl := am_tb5 (i := 171) rfl
theorem am_k694 : Cond.selects RX1 yX1_setLonger yX1_setLonger ∈ lw_tbl := am_tb5 (i := 172) rfl
theorem am_k695 : Cond.code yX1_most cX1_most 4 (some (.int)) ∈ lw_tbl := am_tb4 (i := 216) rfl
theorem am_k696 : Cond.instanceMethod yX1_most ∈ lw_tbl := am_tb4 (i := 214) rfl
theorem am_k697 : Cond.selects RX1 yX1_most yX1_most ∈ lw_tbl := am_tb4 (i := 215) rfl
theorem am_k698 : Cond.code yX1_chosenBits cX1_chosenBits 1 (some (.int)) ∈ lw_tbl := am_tb5 (i := 16) rfl
theorem am_k699 : Cond.instanceMethod yX1_chosenBits ∈ lw_tbl := am_tb5 (i := 14) rfl
theorem am_k700 : Cond.selects RX1 yX1_chosenBits yX1_chosenBits ∈ lw_tbl := am_tb5 (i := 15) rfl
theorem am_k701 : Cond.code yX1_load cX1_load 5 none ∈ lw_tbl := am_tb4 (i := 220) rfl
theorem am_k702 : Cond.instanceMethod yX1_load ∈ lw_tbl := am_tb4 (i := 219) rfl
theorem am_k703 : Cond.selects RX1 yX1_load yX1_load ∈ lw_tbl := am_tp2 (i := 13) (q := (yX1_load, 14)) rfl
theorem am_k704 : Cond.code yX1_loadWant cX1_loadWant 8 none ∈ lw_tbl := am_tb4 (i := 233) rfl
theorem am_k705 : Cond.instanceMethod yX1_loadWant ∈ lw_tbl := am_tb4 (i := 232) rfl
theorem am_k706 : Cond.selects RX1 yX1_loadWant yX1_loadWant ∈ lw_tbl := am_tp2 (i := 14) (q := (yX1_loadWant, 14)) rfl
theorem am_k707 : Cond.code yX1_search cX1_search 5 none ∈ lw_tbl := am_tb4 (i := 238) rfl
theorem am_k708 : Cond.static yX1_search ∈ lw_tbl := am_tb4 (i := 237) rfl
theorem am_k709 : Cond.code yX1_fits cX1_fits 4 (some (.boolean)) ∈ lw_tbl := am_tb5 (i := 2) rfl
theorem am_k710 : Cond.instanceMethod yX1_fits ∈ lw_tbl := am_tb5 (i := 1) rfl
theorem am_k711 : Cond.selects RX1 yX1_fits yX1_fits ∈ lw_tbl := am_tp2 (i := 15) (q := (yX1_fits, 14)) rfl
theorem am_k712 : Cond.code yX1_roomOn cX1_roomOn 2 (some (.int)) ∈ lw_tbl := am_tb5 (i := 7) rfl
theorem am_k713 : Cond.instanceMethod yX1_roomOn ∈ lw_tbl := am_tb5 (i := 6) rfl
theorem am_k714 : Cond.selects RX1 yX1_roomOn yX1_roomOn ∈ lw_tbl := am_tp3 (i := 0) (q := (yX1_roomOn, 14)) rfl
theorem am_k715 : Cond.code yX2_init cX2_init 2 none ∈ lw_tbl := am_tb1 (i := 174) rfl
theorem am_k716 : Cond.instanceMethod yX2_init ∈ lw_tbl := am_tb1 (i := 173) rfl
theorem am_k717 : Cond.code yX2_leastGiven cX2_leastGiven 9 (some (.long)) ∈ lw_tbl := am_tb5 (i := 21) rfl
theorem am_k718 : Cond.instanceMethod yX2_leastGiven ∈ lw_tbl := am_tb5 (i := 19) rfl
theorem am_k719 : Cond.selects RX2 yX2_leastGiven yX2_leastGiven ∈ lw_tbl := am_tb5 (i := 20) rfl
theorem am_k720 : Cond.code yX2_farOf cX2_farOf 2 (some (.int)) ∈ lw_tbl := am_tb5 (i := 196) rfl
theorem am_k721 : Cond.static yX2_farOf ∈ lw_tbl := am_tb5 (i := 195) rfl
theorem am_k722 : Cond.code yX2_indexFor cX2_indexFor 3 (some (.int)) ∈ lw_tbl := am_tb5 (i := 84) rfl
theorem am_k723 : Cond.static yX2_indexFor ∈ lw_tbl := am_tb5 (i := 83) rfl
theorem am_k724 : Cond.code yX2_shiftOf cX2_shiftOf 1 (some (.int)) ∈ lw_tbl := am_tb5 (i := 60) rfl
theorem am_k725 : Cond.static yX2_shiftOf ∈ lw_tbl := am_tb5 (i := 59) rfl
theorem am_k726 : Cond.code yX2_load cX2_load 5 none ∈ lw_tbl := am_tb5 (i := 26) rfl
theorem am_k727 : Cond.instanceMethod yX2_load ∈ lw_tbl := am_tb5 (i := 25) rfl
theorem am_k728 : Cond.selects RX2 yX2_load yX2_load ∈ lw_tbl := am_tp3 (i := 1) (q := (yX2_load, 5)) rfl
theorem am_k729 : Cond.code yX2_costOf cX2_costOf 12 (some (.long)) ∈ lw_tbl := am_tb5 (i := 45) rfl
theorem am_k730 : Cond.instanceMethod yX2_costOf ∈ lw_tbl := am_tb5 (i := 44) rfl
theorem am_k731 : Cond.selects RX2 yX2_costOf yX2_costOf ∈ lw_tbl := am_tp3 (i := 2) (q := (yX2_costOf, 5)) rfl
theorem am_k732 : Cond.code yX2_addThing cX2_addThing 5 none ∈ lw_tbl := am_tb5 (i := 75) rfl
theorem am_k733 : Cond.instanceMethod yX2_addThing ∈ lw_tbl := am_tb5 (i := 74) rfl
theorem am_k734 : Cond.selects RX2 yX2_addThing yX2_addThing ∈ lw_tbl := am_tp3 (i := 3) (q := (yX2_addThing, 5)) rfl
theorem am_k735 : Cond.code yX3_init cX3_init 1 none ∈ lw_tbl := am_tb1 (i := 73) rfl
theorem am_k736 : Cond.instanceMethod yX3_init ∈ lw_tbl := am_tb1 (i := 72) rfl
theorem am_k737 : Cond.code yX3_begin cX3_begin 3 none ∈ lw_tbl := am_tb3 (i := 229) rfl
theorem am_k738 : Cond.instanceMethod yX3_begin ∈ lw_tbl := am_tb3 (i := 227) rfl
theorem am_k739 : Cond.selects RX3 yX3_begin yX3_begin ∈ lw_tbl := am_tb3 (i := 228) rfl
theorem am_k740 : Cond.code yX3_copyOf cX3_copyOf 2 none ∈ lw_tbl := am_tb6 (i := 136) rfl
theorem am_k741 : Cond.instanceMethod yX3_copyOf ∈ lw_tbl := am_tb6 (i := 134) rfl
theorem am_k742 : Cond.selects RX3 yX3_copyOf yX3_copyOf ∈ lw_tbl := am_tb6 (i := 135) rfl
theorem am_k743 : Cond.code yX3_isKept cX3_isKept 1 (some (.boolean)) ∈ lw_tbl := am_tb6 (i := 147) rfl
theorem am_k744 : Cond.instanceMethod yX3_isKept ∈ lw_tbl := am_tb6 (i := 145) rfl
theorem am_k745 : Cond.selects RX3 yX3_isKept yX3_isKept ∈ lw_tbl := am_tb6 (i := 146) rfl
theorem am_k746 : Cond.code yX3_setKept cX3_setKept 2 none ∈ lw_tbl := am_tb4 (i := 12) rfl
theorem am_k747 : Cond.instanceMethod yX3_setKept ∈ lw_tbl := am_tb4 (i := 10) rfl
theorem am_k748 : Cond.selects RX3 yX3_setKept yX3_setKept ∈ lw_tbl := am_tb4 (i := 11) rfl
theorem am_k749 : Cond.code yX3_today cX3_today 1 (some (.int)) ∈ lw_tbl := am_tb4 (i := 140) rfl
theorem am_k750 : Cond.instanceMethod yX3_today ∈ lw_tbl := am_tb4 (i := 138) rfl
theorem am_k751 : Cond.selects RX3 yX3_today yX3_today ∈ lw_tbl := am_tb4 (i := 139) rfl
theorem am_k752 : Cond.code yX3_carriedSoFar cX3_carriedSoFar 1 (some (.int)) ∈ lw_tbl := am_tb6 (i := 163) rfl
theorem am_k753 : Cond.instanceMethod yX3_carriedSoFar ∈ lw_tbl := am_tb6 (i := 161) rfl
theorem am_k754 : Cond.selects RX3 yX3_carriedSoFar yX3_carriedSoFar ∈ lw_tbl := am_tb6 (i := 162) rfl
theorem am_k755 : Cond.code yX3_lostBits cX3_lostBits 1 (some (.int)) ∈ lw_tbl := am_tb4 (i := 198) rfl
theorem am_k756 : Cond.instanceMethod yX3_lostBits ∈ lw_tbl := am_tb4 (i := 196) rfl
theorem am_k757 : Cond.selects RX3 yX3_lostBits yX3_lostBits ∈ lw_tbl := am_tb4 (i := 197) rfl
theorem am_k758 : Cond.code yX3_lawNow cX3_lawNow 1 (some (.int)) ∈ lw_tbl := am_tb6 (i := 167) rfl
theorem am_k759 : Cond.instanceMethod yX3_lawNow ∈ lw_tbl := am_tb6 (i := 165) rfl
theorem am_k760 : Cond.selects RX3 yX3_lawNow yX3_lawNow ∈ lw_tbl := am_tb6 (i := 166) rfl
theorem am_k761 : Cond.code yX3_setLaw cX3_setLaw 2 none ∈ lw_tbl := am_tb4 (i := 164) rfl
theorem am_k762 : Cond.instanceMethod yX3_setLaw ∈ lw_tbl := am_tb4 (i := 162) rfl
theorem am_k763 : Cond.selects RX3 yX3_setLaw yX3_setLaw ∈ lw_tbl := am_tb4 (i := 163) rfl
theorem am_k764 : Cond.code yX3_isLost cX3_isLost 2 (some (.boolean)) ∈ lw_tbl := am_tb4 (i := 42) rfl
theorem am_k765 : Cond.instanceMethod yX3_isLost ∈ lw_tbl := am_tb4 (i := 40) rfl
theorem am_k766 : Cond.selects RX3 yX3_isLost yX3_isLost ∈ lw_tbl := am_tb4 (i := 41) rfl
theorem am_k767 : Cond.code yX3_setLost cX3_setLost 2 none ∈ lw_tbl := am_tb4 (i := 156) rfl
theorem am_k768 : Cond.instanceMethod yX3_setLost ∈ lw_tbl := am_tb4 (i := 154) rfl
theorem am_k769 : Cond.selects RX3 yX3_setLost yX3_setLost ∈ lw_tbl := am_tb4 (i := 155) rfl
theorem am_k770 : Cond.code yX3_depthOf cX3_depthOf 2 (some (.int)) ∈ lw_tbl := am_tb4 (i := 3) rfl
theorem am_k771 : Cond.instanceMethod yX3_depthOf ∈ lw_tbl := am_tb4 (i := 1) rfl
theorem am_k772 : Cond.selects RX3 yX3_depthOf yX3_depthOf ∈ lw_tbl := am_tb4 (i := 2) rfl
theorem am_k773 : Cond.code yX3_whoAt cX3_whoAt 3 (some (.int)) ∈ lw_tbl := am_tb4 (i := 51) rfl
theorem am_k774 : Cond.instanceMethod yX3_whoAt ∈ lw_tbl := am_tb4 (i := 49) rfl
theorem am_k775 : Cond.selects RX3 yX3_whoAt yX3_whoAt ∈ lw_tbl := am_tb4 (i := 50) rfl
theorem am_k776 : Cond.code yX3_tillAt cX3_tillAt 3 (some (.int)) ∈ lw_tbl := am_tb4 (i := 89) rfl
theorem am_k777 : Cond.instanceMethod yX3_tillAt ∈ lw_tbl := am_tb4 (i := 87) rfl
theorem am_k778 : Cond.selects RX3 yX3_tillAt yX3_tillAt ∈ lw_tbl := am_tb4 (i := 88) rfl
theorem am_k779 : Cond.code yX3_holderOf cX3_holderOf 2 (some (.int)) ∈ lw_tbl := am_tb4 (i := 47) rfl
theorem am_k780 : Cond.instanceMethod yX3_holderOf ∈ lw_tbl := am_tb4 (i := 45) rfl
theorem am_k781 : Cond.selects RX3 yX3_holderOf yX3_holderOf ∈ lw_tbl := am_tb4 (i := 46) rfl
theorem am_k782 : Cond.code yX3_heldBy cX3_heldBy 5 (some (.int)) ∈ lw_tbl := am_tb4 (i := 38) rfl
theorem am_k783 : Cond.instanceMethod yX3_heldBy ∈ lw_tbl := am_tb4 (i := 36) rfl
theorem am_k784 : Cond.selects RX3 yX3_heldBy yX3_heldBy ∈ lw_tbl := am_tb4 (i := 37) rfl
theorem am_k785 : Cond.code yX3_mayLend cX3_mayLend 6 (some (.boolean)) ∈ lw_tbl := am_tb4 (i := 107) rfl
theorem am_k786 : Cond.instanceMethod yX3_mayLend ∈ lw_tbl := am_tb4 (i := 105) rfl
theorem am_k787 : Cond.selects RX3 yX3_mayLend yX3_mayLend ∈ lw_tbl := am_tb4 (i := 106) rfl
theorem am_k788 : Cond.code yX3_isInChain cX3_isInChain 4 (some (.boolean)) ∈ lw_tbl := am_tb4 (i := 112) rfl
theorem am_k789 : Cond.instanceMethod yX3_isInChain ∈ lw_tbl := am_tb4 (i := 111) rfl
theorem am_k790 : Cond.selects RX3 yX3_isInChain yX3_isInChain ∈ lw_tbl := am_tp2 (i := 8) (q := (yX3_isInChain, 8)) rfl
theorem am_k791 : Cond.code yX3_hand cX3_hand 6 (some (.int)) ∈ lw_tbl := am_tb4 (i := 116) rfl
theorem am_k792 : Cond.instanceMethod yX3_hand ∈ lw_tbl := am_tb4 (i := 114) rfl
theorem am_k793 : Cond.selects RX3 yX3_hand yX3_hand ∈ lw_tbl := am_tb4 (i := 115) rfl
theorem am_k794 : Cond.code yX3_push cX3_push 5 none ∈ lw_tbl := am_tb3 (i := 239) rfl
theorem am_k795 : Cond.instanceMethod yX3_push ∈ lw_tbl := am_tb3 (i := 238) rfl
theorem am_k796 : Cond.selects RX3 yX3_push yX3_push ∈ lw_tbl := am_tp2 (i := 6) (q := (yX3_push, 8)) rfl
theorem am_k797 : Cond.code yX3_giveBack cX3_giveBack 5 (some (.int)) ∈ lw_tbl := am_tb4 (i := 132) rfl
theorem am_k798 : Cond.instanceMethod yX3_giveBack ∈ lw_tbl := am_tb4 (i := 130) rfl
theorem am_k799 : Cond.selects RX3 yX3_giveBack yX3_giveBack ∈ lw_tbl := am_tb4 (i := 131) rfl
theorem am_k800 : Cond.code yX3_passDay cX3_passDay 4 (some (.int)) ∈ lw_tbl := am_tb4 (i := 144) rfl
theorem am_k801 : Cond.instanceMethod yX3_passDay ∈ lw_tbl := am_tb4 (i := 142) rfl
theorem am_k802 : Cond.selects RX3 yX3_passDay yX3_passDay ∈ lw_tbl := am_tb4 (i := 143) rfl
theorem am_k803 : Cond.code yX3_endLoans cX3_endLoans 5 (some (.int)) ∈ lw_tbl := am_tb4 (i := 148) rfl
theorem am_k804 : Cond.instanceMethod yX3_endLoans ∈ lw_tbl := am_tb4 (i := 147) rfl
theorem am_k805 : Cond.selects RX3 yX3_endLoans yX3_endLoans ∈ lw_tbl := am_tp2 (i := 9) (q := (yX3_endLoans, 8)) rfl
theorem am_k806 : Cond.code yX3_debt cX3_debt 6 (some (.int)) ∈ lw_tbl := am_tb4 (i := 172) rfl
theorem am_k807 : Cond.instanceMethod yX3_debt ∈ lw_tbl := am_tb4 (i := 170) rfl
theorem am_k808 : Cond.selects RX3 yX3_debt yX3_debt ∈ lw_tbl := am_tb4 (i := 171) rfl
theorem am_k809 : Cond.code yX3_owesFor cX3_owesFor 6 (some (.boolean)) ∈ lw_tbl := am_tb4 (i := 176) rfl
theorem am_k810 : Cond.instanceMethod yX3_owesFor ∈ lw_tbl := am_tb4 (i := 175) rfl
theorem am_k811 : Cond.selects RX3 yX3_owesFor yX3_owesFor ∈ lw_tbl := am_tp2 (i := 10) (q := (yX3_owesFor, 8)) rfl
theorem am_k812 : Cond.code yX4_init cX4_init 1 none ∈ lw_tbl := am_tb2 (i := 60) rfl
theorem am_k813 : Cond.instanceMethod yX4_init ∈ lw_tbl := am_tb2 (i := 59) rfl
theorem am_k814 : Cond.code yX4_clear cX4_clear 1 none ∈ lw_tbl := am_tb2 (i := 210) rfl
theorem am_k815 : Cond.instanceMethod yX4_clear ∈ lw_tbl := am_tb2 (i := 208) rfl
theorem am_k816 : Cond.selects RX4 yX4_clear yX4_clear ∈ lw_tbl := am_tb2 (i := 209) rfl
theorem am_k817 : Cond.code yX4_addPerson cX4_addPerson 4 none ∈ lw_tbl := am_tb3 (i := 103) rfl
theorem am_k818 : Cond.instanceMethod yX4_addPerson ∈ lw_tbl := am_tb3 (i := 101) rfl
theorem am_k819 : Cond.selects RX4 yX4_addPerson yX4_addPerson ∈ lw_tbl := am_tb3 (i := 102) rfl
theorem am_k820 : Cond.code yX4_addSort cX4_addSort 4 none ∈ lw_tbl := am_tb3 (i := 119) rfl
theorem am_k821 : Cond.instanceMethod yX4_addSort ∈ lw_tbl := am_tb3 (i := 117) rfl
theorem am_k822 : Cond.selects RX4 yX4_addSort yX4_addSort ∈ lw_tbl := am_tb3 (i := 118) rfl
theorem am_k823 : Cond.code yX4_addThing cX4_addThing 3 none ∈ lw_tbl := am_tb3 (i := 151) rfl
theorem am_k824 : Cond.instanceMethod yX4_addThing ∈ lw_tbl := am_tb3 (i := 149) rfl
theorem am_k825 : Cond.selects RX4 yX4_addThing yX4_addThing ∈ lw_tbl := am_tb3 (i := 150) rfl
theorem am_k826 : Cond.code yX4_addWant cX4_addWant 6 none ∈ lw_tbl := am_tb3 (i := 177) rfl
theorem am_k827 : Cond.instanceMethod yX4_addWant ∈ lw_tbl := am_tb3 (i := 175) rfl
theorem am_k828 : Cond.selects RX4 yX4_addWant yX4_addWant ∈ lw_tbl := am_tb3 (i := 176) rfl
theorem am_k829 : Cond.code yX4_orderByFrom cX4_orderByFrom 4 none ∈ lw_tbl := am_tb3 (i := 181) rfl
theorem am_k830 : Cond.instanceMethod yX4_orderByFrom ∈ lw_tbl := am_tb3 (i := 180) rfl
theorem am_k831 : Cond.selects RX4 yX4_orderByFrom yX4_orderByFrom ∈ lw_tbl := am_tp2 (i := 2) (q := (yX4_orderByFrom, 19)) rfl
theorem am_k832 : Cond.code yX4_tellHands cX4_tellHands 2 none ∈ lw_tbl := am_tb3 (i := 197) rfl
theorem am_k833 : Cond.instanceMethod yX4_tellHands ∈ lw_tbl := am_tb3 (i := 195) rfl
theorem am_k834 : Cond.selects RX4 yX4_tellHands yX4_tellHands ∈ lw_tbl := am_tb3 (i := 196) rfl
theorem am_k835 : Cond.code yX4_tellRoad cX4_tellRoad 2 none ∈ lw_tbl := am_tb3 (i := 209) rfl
theorem am_k836 : Cond.instanceMethod yX4_tellRoad ∈ lw_tbl := am_tb3 (i := 207) rfl
theorem am_k837 : Cond.selects RX4 yX4_tellRoad yX4_tellRoad ∈ lw_tbl := am_tb3 (i := 208) rfl
theorem am_k838 : Cond.code yX4_tellHeir cX4_tellHeir 3 none ∈ lw_tbl := am_tb3 (i := 221) rfl
theorem am_k839 : Cond.instanceMethod yX4_tellHeir ∈ lw_tbl := am_tb3 (i := 219) rfl
theorem am_k840 : Cond.selects RX4 yX4_tellHeir yX4_tellHeir ∈ lw_tbl := am_tb3 (i := 220) rfl
theorem am_k841 : Cond.code yX4_people cX4_people 1 (some (.int)) ∈ lw_tbl := am_tb3 (i := 62) rfl
theorem am_k842 : Cond.instanceMethod yX4_people ∈ lw_tbl := am_tb3 (i := 60) rfl
theorem am_k843 : Cond.selects RX4 yX4_people yX4_people ∈ lw_tbl := am_tb3 (i := 61) rfl
theorem am_k844 : Cond.code yX4_sorts cX4_sorts 1 (some (.int)) ∈ lw_tbl := am_tb3 (i := 111) rfl
theorem am_k845 : Cond.instanceMethod yX4_sorts ∈ lw_tbl := am_tb3 (i := 109) rfl
theorem am_k846 : Cond.selects RX4 yX4_sorts yX4_sorts ∈ lw_tbl := am_tb3 (i := 110) rfl
theorem am_k847 : Cond.code yX4_things cX4_things 1 (some (.int)) ∈ lw_tbl := am_tb3 (i := 123) rfl
theorem am_k848 : Cond.instanceMethod yX4_things ∈ lw_tbl := am_tb3 (i := 121) rfl
theorem am_k849 : Cond.selects RX4 yX4_things yX4_things ∈ lw_tbl := am_tb3 (i := 122) rfl
theorem am_k850 : Cond.code yX4_wants cX4_wants 1 (some (.int)) ∈ lw_tbl := am_tb3 (i := 155) rfl
theorem am_k851 : Cond.instanceMethod yX4_wants ∈ lw_tbl := am_tb3 (i := 153) rfl
theorem am_k852 : Cond.selects RX4 yX4_wants yX4_wants ∈ lw_tbl := am_tb3 (i := 154) rfl
theorem am_k853 : Cond.code yX4_handsTold cX4_handsTold 1 (some (.boolean)) ∈ lw_tbl := am_tb3 (i := 189) rfl
theorem am_k854 : Cond.instanceMethod yX4_handsTold ∈ lw_tbl := am_tb3 (i := 187) rfl
theorem am_k855 : Cond.selects RX4 yX4_handsTold yX4_handsTold ∈ lw_tbl := am_tb3 (i := 188) rfl
theorem am_k856 : Cond.code yX4_roadTold cX4_roadTold 1 (some (.boolean)) ∈ lw_tbl := am_tb3 (i := 201) rfl
theorem am_k857 : Cond.instanceMethod yX4_roadTold ∈ lw_tbl := am_tb3 (i := 199) rfl
theorem am_k858 : Cond.selects RX4 yX4_roadTold yX4_roadTold ∈ lw_tbl := am_tb3 (i := 200) rfl
theorem am_k859 : Cond.code yX4_hands cX4_hands 1 (some (.int)) ∈ lw_tbl := am_tb4 (i := 103) rfl
theorem am_k860 : Cond.instanceMethod yX4_hands ∈ lw_tbl := am_tb4 (i := 101) rfl
theorem am_k861 : Cond.selects RX4 yX4_hands yX4_hands ∈ lw_tbl := am_tb4 (i := 102) rfl
theorem am_k862 : Cond.code yX4_road cX4_road 1 (some (.int)) ∈ lw_tbl := am_tb5 (i := 229) rfl
theorem am_k863 : Cond.instanceMethod yX4_road ∈ lw_tbl := am_tb5 (i := 227) rfl
theorem am_k864 : Cond.selects RX4 yX4_road yX4_road ∈ lw_tbl := am_tb5 (i := 228) rfl
theorem am_k865 : Cond.code yX4_isPerson cX4_isPerson 2 (some (.boolean)) ∈ lw_tbl := am_tb4 (i := 29) rfl
theorem am_k866 : Cond.instanceMethod yX4_isPerson ∈ lw_tbl := am_tb4 (i := 27) rfl
theorem am_k867 : Cond.selects RX4 yX4_isPerson yX4_isPerson ∈ lw_tbl := am_tb4 (i := 28) rfl
theorem am_k868 : Cond.code yX4_isSort cX4_isSort 2 (some (.boolean)) ∈ lw_tbl := am_tb5 (i := 155) rfl
theorem am_k869 : Cond.instanceMethod yX4_isSort ∈ lw_tbl := am_tb5 (i := 153) rfl
theorem am_k870 : Cond.selects RX4 yX4_isSort yX4_isSort ∈ lw_tbl := am_tb5 (i := 154) rfl
theorem am_k871 : Cond.code yX4_isThing cX4_isThing 2 (some (.boolean)) ∈ lw_tbl := am_tb4 (i := 81) rfl
theorem am_k872 : Cond.instanceMethod yX4_isThing ∈ lw_tbl := am_tb4 (i := 79) rfl
theorem am_k873 : Cond.selects RX4 yX4_isThing yX4_isThing ∈ lw_tbl := am_tb4 (i := 80) rfl
theorem am_k874 : Cond.code yX4_isWant cX4_isWant 2 (some (.boolean)) ∈ lw_tbl := am_tb4 (i := 59) rfl
theorem am_k875 : Cond.instanceMethod yX4_isWant ∈ lw_tbl := am_tb4 (i := 57) rfl
theorem am_k876 : Cond.selects RX4 yX4_isWant yX4_isWant ∈ lw_tbl := am_tb4 (i := 58) rfl
theorem am_k877 : Cond.code yX4_personNamed cX4_personNamed 4 (some (.int)) ∈ lw_tbl := am_tb3 (i := 84) rfl
theorem am_k878 : Cond.instanceMethod yX4_personNamed ∈ lw_tbl := am_tb3 (i := 82) rfl
theorem am_k879 : Cond.selects RX4 yX4_personNamed yX4_personNamed ∈ lw_tbl := am_tb3 (i := 83) rfl
theorem am_k880 : Cond.code yX4_sortNamed cX4_sortNamed 4 (some (.int)) ∈ lw_tbl := am_tb3 (i := 91) rfl
theorem am_k881 : Cond.instanceMethod yX4_sortNamed ∈ lw_tbl := am_tb3 (i := 89) rfl
theorem am_k882 : Cond.selects RX4 yX4_sortNamed yX4_sortNamed ∈ lw_tbl := am_tb3 (i := 90) rfl
theorem am_k883 : Cond.code yX4_placeOf cX4_placeOf 2 (some (.int)) ∈ lw_tbl := am_tb4 (i := 33) rfl
theorem am_k884 : Cond.instanceMethod yX4_placeOf ∈ lw_tbl := am_tb4 (i := 31) rfl
theorem am_k885 : Cond.selects RX4 yX4_placeOf yX4_placeOf ∈ lw_tbl := am_tb4 (i := 32) rfl
theorem am_k886 : Cond.code yX4_heirOf cX4_heirOf 2 (some (.int)) ∈ lw_tbl := am_tb3 (i := 217) rfl
theorem am_k887 : Cond.instanceMethod yX4_heirOf ∈ lw_tbl := am_tb3 (i := 215) rfl
theorem am_k888 : Cond.selects RX4 yX4_heirOf yX4_heirOf ∈ lw_tbl := am_tb3 (i := 216) rfl
theorem am_k889 : Cond.code yX4_worthOf cX4_worthOf 2 (some (.int)) ∈ lw_tbl := am_tb4 (i := 181) rfl
theorem am_k890 : Cond.instanceMethod yX4_worthOf ∈ lw_tbl := am_tb4 (i := 179) rfl
theorem am_k891 : Cond.selects RX4 yX4_worthOf yX4_worthOf ∈ lw_tbl := am_tb4 (i := 180) rfl
theorem am_k892 : Cond.code yX4_sortOfThing cX4_sortOfThing 2 (some (.int)) ∈ lw_tbl := am_tb3 (i := 139) rfl
theorem am_k893 : Cond.instanceMethod yX4_sortOfThing ∈ lw_tbl := am_tb3 (i := 137) rfl
theorem am_k894 : Cond.selects RX4 yX4_sortOfThing yX4_sortOfThing ∈ lw_tbl := am_tb3 (i := 138) rfl
theorem am_k895 : Cond.code yX4_ownerOf cX4_ownerOf 2 (some (.int)) ∈ lw_tbl := am_tb3 (i := 235) rfl
theorem am_k896 : Cond.instanceMethod yX4_ownerOf ∈ lw_tbl := am_tb3 (i := 233) rfl
theorem am_k897 : Cond.selects RX4 yX4_ownerOf yX4_ownerOf ∈ lw_tbl := am_tb3 (i := 234) rfl
theorem am_k898 : Cond.code yX4_homeOf cX4_homeOf 2 (some (.int)) ∈ lw_tbl := am_tb5 (i := 41) rfl
theorem am_k899 : Cond.instanceMethod yX4_homeOf ∈ lw_tbl := am_tb5 (i := 39) rfl
theorem am_k900 : Cond.selects RX4 yX4_homeOf yX4_homeOf ∈ lw_tbl := am_tb5 (i := 40) rfl
theorem am_k901 : Cond.code yX4_whoWants cX4_whoWants 2 (some (.int)) ∈ lw_tbl := am_tb4 (i := 63) rfl
theorem am_k902 : Cond.instanceMethod yX4_whoWants ∈ lw_tbl := am_tb4 (i := 61) rfl
theorem am_k903 : Cond.selects RX4 yX4_whoWants yX4_whoWants ∈ lw_tbl := am_tb4 (i := 62) rfl
theorem am_k904 : Cond.code yX4_placeOfWant cX4_placeOfWant 2 (some (.int)) ∈ lw_tbl := am_tb5 (i := 52) rfl
theorem am_k905 : Cond.instanceMethod yX4_placeOfWant ∈ lw_tbl := am_tb5 (i := 50) rfl
theorem am_k906 : Cond.selects RX4 yX4_placeOfWant yX4_placeOfWant ∈ lw_tbl := am_tb5 (i := 51) rfl
theorem am_k907 : Cond.code yX4_sortOfWant cX4_sortOfWant 2 (some (.int)) ∈ lw_tbl := am_tb3 (i := 167) rfl
theorem am_k908 : Cond.instanceMethod yX4_sortOfWant ∈ lw_tbl := am_tb3 (i := 165) rfl
theorem am_k909 : Cond.selects RX4 yX4_sortOfWant yX4_sortOfWant ∈ lw_tbl := am_tb3 (i := 166) rfl
theorem am_k910 : Cond.code yX4_fromOf cX4_fromOf 2 (some (.int)) ∈ lw_tbl := am_tb3 (i := 185) rfl
theorem am_k911 : Cond.instanceMethod yX4_fromOf ∈ lw_tbl := am_tb3 (i := 183) rfl
theorem am_k912 : Cond.selects RX4 yX4_fromOf yX4_fromOf ∈ lw_tbl := am_tb3 (i := 184) rfl
theorem am_k913 : Cond.code yX4_tillOf cX4_tillOf 2 (some (.int)) ∈ lw_tbl := am_tb4 (i := 69) rfl
theorem am_k914 : Cond.instanceMethod yX4_tillOf ∈ lw_tbl := am_tb4 (i := 67) rfl
theorem am_k915 : Cond.selects RX4 yX4_tillOf yX4_tillOf ∈ lw_tbl := am_tb4 (i := 68) rfl
theorem am_k916 : Cond.code yX4_weightOf cX4_weightOf 2 (some (.int)) ∈ lw_tbl := am_tb4 (i := 73) rfl
theorem am_k917 : Cond.instanceMethod yX4_weightOf ∈ lw_tbl := am_tb4 (i := 71) rfl
theorem am_k918 : Cond.selects RX4 yX4_weightOf yX4_weightOf ∈ lw_tbl := am_tb4 (i := 72) rfl
theorem am_k919 : Cond.code yX4_byFirstDay cX4_byFirstDay 2 (some (.int)) ∈ lw_tbl := am_tb4 (i := 225) rfl
theorem am_k920 : Cond.instanceMethod yX4_byFirstDay ∈ lw_tbl := am_tb4 (i := 223) rfl
theorem am_k921 : Cond.selects RX4 yX4_byFirstDay yX4_byFirstDay ∈ lw_tbl := am_tb4 (i := 224) rfl
theorem am_k922 : Cond.code yX4_apart cX4_apart 3 (some (.int)) ∈ lw_tbl := am_tb4 (i := 120) rfl
theorem am_k923 : Cond.instanceMethod yX4_apart ∈ lw_tbl := am_tb4 (i := 118) rfl
theorem am_k924 : Cond.selects RX4 yX4_apart yX4_apart ∈ lw_tbl := am_tb4 (i := 119) rfl
theorem am_k925 : Cond.code yX4_partOf cX4_partOf 4 (some (.int)) ∈ lw_tbl := am_tb6 (i := 15) rfl
theorem am_k926 : Cond.instanceMethod yX4_partOf ∈ lw_tbl := am_tb6 (i := 13) rfl
theorem am_k927 : Cond.selects RX4 yX4_partOf yX4_partOf ∈ lw_tbl := am_tb6 (i := 14) rfl
theorem am_k928 : Cond.code yX4_weightOfAll cX4_weightOfAll 4 (some (.int)) ∈ lw_tbl := am_tb5 (i := 11) rfl
theorem am_k929 : Cond.instanceMethod yX4_weightOfAll ∈ lw_tbl := am_tb5 (i := 9) rfl
theorem am_k930 : Cond.selects RX4 yX4_weightOfAll yX4_weightOfAll ∈ lw_tbl := am_tb5 (i := 10) rfl
theorem am_k931 : Cond.code yX4_wantsOfSort cX4_wantsOfSort 4 (some (.int)) ∈ lw_tbl := am_tb3 (i := 163) rfl
theorem am_k932 : Cond.instanceMethod yX4_wantsOfSort ∈ lw_tbl := am_tb3 (i := 161) rfl
theorem am_k933 : Cond.selects RX4 yX4_wantsOfSort yX4_wantsOfSort ∈ lw_tbl := am_tb3 (i := 162) rfl
theorem am_k934 : Cond.code yX4_wantsOfPerson cX4_wantsOfPerson 4 (some (.int)) ∈ lw_tbl := am_tb6 (i := 46) rfl
theorem am_k935 : Cond.instanceMethod yX4_wantsOfPerson ∈ lw_tbl := am_tb6 (i := 44) rfl
theorem am_k936 : Cond.selects RX4 yX4_wantsOfPerson yX4_wantsOfPerson ∈ lw_tbl := am_tb6 (i := 45) rfl
theorem am_k937 : Cond.code yX4_wantsOn cX4_wantsOn 5 (some (.int)) ∈ lw_tbl := am_tb5 (i := 145) rfl
theorem am_k938 : Cond.instanceMethod yX4_wantsOn ∈ lw_tbl := am_tb5 (i := 143) rfl
theorem am_k939 : Cond.selects RX4 yX4_wantsOn yX4_wantsOn ∈ lw_tbl := am_tb5 (i := 144) rfl
theorem am_k940 : Cond.code yX4_thingsLeft cX4_thingsLeft 5 (some (.int)) ∈ lw_tbl := am_tb3 (i := 135) rfl
theorem am_k941 : Cond.instanceMethod yX4_thingsLeft ∈ lw_tbl := am_tb3 (i := 133) rfl
theorem am_k942 : Cond.selects RX4 yX4_thingsLeft yX4_thingsLeft ∈ lw_tbl := am_tb3 (i := 134) rfl
theorem am_k943 : Cond.code yX5_init cX5_init 1 none ∈ lw_tbl := am_tb2 (i := 16) rfl
theorem am_k944 : Cond.instanceMethod yX5_init ∈ lw_tbl := am_tb2 (i := 15) rfl
theorem am_k945 : Cond.code yX5_reckon cX5_reckon 9 none ∈ lw_tbl := am_tb6 (i := 2) rfl
theorem am_k946 : Cond.instanceMethod yX5_reckon ∈ lw_tbl := am_tb6 (i := 0) rfl
theorem am_k947 : Cond.selects RX5 yX5_reckon yX5_reckon ∈ lw_tbl := am_tb6 (i := 1) rfl
theorem am_k948 : Cond.code yX5_freeBehind cX5_freeBehind 5 (some (.int)) ∈ lw_tbl := am_tb6 (i := 10) rfl
theorem am_k949 : Cond.instanceMethod yX5_freeBehind ∈ lw_tbl := am_tb6 (i := 9) rfl
theorem am_k950 : Cond.selects RX5 yX5_freeBehind yX5_freeBehind ∈ lw_tbl := am_tp3 (i := 8) (q := (yX5_freeBehind, 2)) rfl
theorem am_k951 : Cond.code yX5_hurtBits cX5_hurtBits 1 (some (.int)) ∈ lw_tbl := am_tb6 (i := 21) rfl
theorem am_k952 : Cond.instanceMethod yX5_hurtBits ∈ lw_tbl := am_tb6 (i := 19) rfl
theorem am_k953 : Cond.selects RX5 yX5_hurtBits yX5_hurtBits ∈ lw_tbl := am_tb6 (i := 20) rfl
theorem am_k954 : Cond.code yX5_lostWeight cX5_lostWeight 1 (some (.int)) ∈ lw_tbl := am_tb6 (i := 25) rfl
theorem am_k955 : Cond.instanceMethod yX5_lostWeight ∈ lw_tbl := am_tb6 (i := 23) rfl
theorem am_k956 : Cond.selects RX5 yX5_lostWeight yX5_lostWeight ∈ lw_tbl := am_tb6 (i := 24) rfl
theorem am_k957 : Cond.code yX5_mostBorne cX5_mostBorne 8 (some (.int)) ∈ lw_tbl := am_tb6 (i := 33) rfl
theorem am_k958 : Cond.instanceMethod yX5_mostBorne ∈ lw_tbl := am_tb6 (i := 31) rfl
theorem am_k959 : Cond.selects RX5 yX5_mostBorne yX5_mostBorne ∈ lw_tbl := am_tb6 (i := 32) rfl
theorem am_k960 : Cond.code yX6_init cX6_init 2 none ∈ lw_tbl := am_tb1 (i := 155) rfl
theorem am_k961 : Cond.instanceMethod yX6_init ∈ lw_tbl := am_tb1 (i := 154) rfl
theorem am_k962 : Cond.code yX6_forget cX6_forget 1 none ∈ lw_tbl := am_tb4 (i := 20) rfl
theorem am_k963 : Cond.instanceMethod yX6_forget ∈ lw_tbl := am_tb4 (i := 18) rfl
theorem am_k964 : Cond.selects RX6 yX6_forget yX6_forget ∈ lw_tbl := am_tb4 (i := 19) rfl
theorem am_k965 : Cond.code yX6_make cX6_make 4 none ∈ lw_tbl := am_tb4 (i := 202) rfl
theorem am_k966 : Cond.instanceMethod yX6_make ∈ lw_tbl := am_tb4 (i := 200) rfl
theorem am_k967 : Cond.selects RX6 yX6_make yX6_make ∈ lw_tbl := am_tb4 (i := 201) rfl
theorem am_k968 : Cond.code yX6_makeSort cX6_makeSort 7 none ∈ lw_tbl := am_tb4 (i := 210) rfl
theorem am_k969 : Cond.instanceMethod yX6_makeSort ∈ lw_tbl := am_tb4 (i := 209) rfl
theorem am_k970 : Cond.selects RX6 yX6_makeSort yX6_makeSort ∈ lw_tbl := am_tp2 (i := 12) (q := (yX6_makeSort, 9)) rfl
theorem am_k971 : Cond.code yX6_thingAt cX6_thingAt 6 (some (.int)) ∈ lw_tbl := am_tb5 (i := 88) rfl
theorem am_k972 : Cond.instanceMethod yX6_thingAt ∈ lw_tbl := am_tb5 (i := 87) rfl
theorem am_k973 : Cond.selects RX6 yX6_thingAt yX6_thingAt ∈ lw_tbl := am_tp3 (i := 4) (q := (yX6_thingAt, 9)) rfl
theorem am_k974 : Cond.code yX6_addTrips cX6_addTrips 10 none ∈ lw_tbl := am_tb5 (i := 100) rfl
theorem am_k975 : Cond.instanceMethod yX6_addTrips ∈ lw_tbl := am_tb5 (i := 99) rfl
theorem am_k976 : Cond.selects RX6 yX6_addTrips yX6_addTrips ∈ lw_tbl := am_tp3 (i := 5) (q := (yX6_addTrips, 9)) rfl
theorem am_k977 : Cond.code yX6_lineUp cX6_lineUp 6 (some (.int)) ∈ lw_tbl := am_tb5 (i := 104) rfl
theorem am_k978 : Cond.instanceMethod yX6_lineUp ∈ lw_tbl := am_tb5 (i := 102) rfl
theorem am_k979 : Cond.selects RX6 yX6_lineUp yX6_lineUp ∈ lw_tbl := am_tb5 (i := 103) rfl
theorem am_k980 : Cond.code yX6_lined cX6_lined 2 (some (.int)) ∈ lw_tbl := am_tb5 (i := 114) rfl
theorem am_k981 : Cond.instanceMethod yX6_lined ∈ lw_tbl := am_tb5 (i := 112) rfl
theorem am_k982 : Cond.selects RX6 yX6_lined yX6_lined ∈ lw_tbl := am_tb5 (i := 113) rfl
theorem am_k983 : Cond.code yX6_metBits cX6_metBits 1 (some (.int)) ∈ lw_tbl := am_tb5 (i := 135) rfl
theorem am_k984 : Cond.instanceMethod yX6_metBits ∈ lw_tbl := am_tb5 (i := 133) rfl
theorem am_k985 : Cond.selects RX6 yX6_metBits yX6_metBits ∈ lw_tbl := am_tb5 (i := 134) rfl
theorem am_k986 : Cond.code yX6_thingFor cX6_thingFor 2 (some (.int)) ∈ lw_tbl := am_tb5 (i := 109) rfl
theorem am_k987 : Cond.instanceMethod yX6_thingFor ∈ lw_tbl := am_tb5 (i := 107) rfl
theorem am_k988 : Cond.selects RX6 yX6_thingFor yX6_thingFor ∈ lw_tbl := am_tb5 (i := 108) rfl
theorem am_k989 : Cond.code yX6_allTrips cX6_allTrips 1 (some (.object "OnlyLent$Trips")) ∈ lw_tbl := am_tb5 (i := 204) rfl
theorem am_k990 : Cond.instanceMethod yX6_allTrips ∈ lw_tbl := am_tb5 (i := 202) rfl
theorem am_k991 : Cond.selects RX6 yX6_allTrips yX6_allTrips ∈ lw_tbl := am_tb5 (i := 203) rfl
theorem am_k992 : Cond.code yX6_waysOf cX6_waysOf 4 (some (.int)) ∈ lw_tbl := am_tb5 (i := 193) rfl
theorem am_k993 : Cond.instanceMethod yX6_waysOf ∈ lw_tbl := am_tb5 (i := 191) rfl
theorem am_k994 : Cond.selects RX6 yX6_waysOf yX6_waysOf ∈ lw_tbl := am_tb5 (i := 192) rfl
theorem am_k995 : Cond.code yX6_metInYears cX6_metInYears 13 (some (.int)) ∈ lw_tbl := am_tb6 (i := 118) rfl
theorem am_k996 : Cond.instanceMethod yX6_metInYears ∈ lw_tbl := am_tb6 (i := 116) rfl
theorem am_k997 : Cond.selects RX6 yX6_metInYears yX6_metInYears ∈ lw_tbl := am_tb6 (i := 117) rfl
theorem am_k998 : Cond.code yX7_init cX7_init 2 none ∈ lw_tbl := am_tb1 (i := 48) rfl
theorem am_k999 : Cond.instanceMethod yX7_init ∈ lw_tbl := am_tb1 (i := 47) rfl
theorem am_k1000 : Cond.code yX7_read cX7_read 3 (some (.int)) ∈ lw_tbl := am_tb2 (i := 206) rfl
theorem am_k1001 : Cond.instanceMethod yX7_read ∈ lw_tbl := am_tb2 (i := 204) rfl
theorem am_k1002 : Cond.selects RX7 yX7_read yX7_read ∈ lw_tbl := am_tb2 (i := 205) rfl
theorem am_k1003 : Cond.code yX7_readLine cX7_readLine 2 (some (.boolean)) ∈ lw_tbl := am_tb3 (i := 5) rfl
theorem am_k1004 : Cond.instanceMethod yX7_readLine ∈ lw_tbl := am_tb3 (i := 4) rfl
theorem am_k1005 : Cond.selects RX7 yX7_readLine yX7_readLine ∈ lw_tbl := am_tp1 (i := 6) (q := (yX7_readLine, 6)) rfl
theorem am_k1006 : Cond.code yX7_readPerson cX7_readPerson 5 (some (.boolean)) ∈ lw_tbl := am_tb3 (i := 66) rfl
theorem am_k1007 : Cond.instanceMethod yX7_readPerson ∈ lw_tbl := am_tb3 (i := 65) rfl
theorem am_k1008 : Cond.selects RX7 yX7_readPerson yX7_readPerson ∈ lw_tbl := am_tp1 (i := 8) (q := (yX7_readPerson, 6)) rfl
theorem am_k1009 : Cond.code yX7_readSort cX7_readSort 5 (some (.boolean)) ∈ lw_tbl := am_tb3 (i := 115) rfl
theorem am_k1010 : Cond.instanceMethod yX7_readSort ∈ lw_tbl := am_tb3 (i := 114) rfl
theorem am_k1011 : Cond.selects RX7 yX7_readSort yX7_readSort ∈ lw_tbl := am_tp1 (i := 13) (q := (yX7_readSort, 6)) rfl
theorem am_k1012 : Cond.code yX7_readThing cX7_readThing 4 (some (.boolean)) ∈ lw_tbl := am_tb3 (i := 127) rfl
theorem am_k1013 : Cond.instanceMethod yX7_readThing ∈ lw_tbl := am_tb3 (i := 126) rfl
theorem am_k1014 : Cond.selects RX7 yX7_readThing yX7_readThing ∈ lw_tbl := am_tp1 (i := 14) (q := (yX7_readThing, 6)) rfl
theorem am_k1015 : Cond.code yX7_readWant cX7_readWant 7 (some (.boolean)) ∈ lw_tbl := am_tb3 (i := 159) rfl
theorem am_k1016 : Cond.instanceMethod yX7_readWant ∈ lw_tbl := am_tb3 (i := 158) rfl
theorem am_k1017 : Cond.selects RX7 yX7_readWant yX7_readWant ∈ lw_tbl := am_tp2 (i := 1) (q := (yX7_readWant, 6)) rfl
theorem am_k1018 : Cond.code yX7_readHands cX7_readHands 3 (some (.boolean)) ∈ lw_tbl := am_tb3 (i := 193) rfl
theorem am_k1019 : Cond.instanceMethod yX7_readHands ∈ lw_tbl := am_tb3 (i := 192) rfl
theorem am_k1020 : Cond.selects RX7 yX7_readHands yX7_readHands ∈ lw_tbl := am_tp2 (i := 3) (q := (yX7_readHands, 6)) rfl
theorem am_k1021 : Cond.code yX7_readRoad cX7_readRoad 3 (some (.boolean)) ∈ lw_tbl := am_tb3 (i := 205) rfl
theorem am_k1022 : Cond.instanceMethod yX7_readRoad ∈ lw_tbl := am_tb3 (i := 204) rfl
theorem am_k1023 : Cond.selects RX7 yX7_readRoad yX7_readRoad ∈ lw_tbl := am_tp2 (i := 4) (q := (yX7_readRoad, 6)) rfl
theorem am_k1024 : Cond.code yX7_readHeir cX7_readHeir 4 (some (.boolean)) ∈ lw_tbl := am_tb3 (i := 213) rfl
theorem am_k1025 : Cond.instanceMethod yX7_readHeir ∈ lw_tbl := am_tb3 (i := 212) rfl
theorem am_k1026 : Cond.selects RX7 yX7_readHeir yX7_readHeir ∈ lw_tbl := am_tp2 (i := 5) (q := (yX7_readHeir, 6)) rfl
theorem am_k1027 : Cond.code yX7_isNewName cX7_isNewName 2 (some (.boolean)) ∈ lw_tbl := am_tb3 (i := 70) rfl
theorem am_k1028 : Cond.instanceMethod yX7_isNewName ∈ lw_tbl := am_tb3 (i := 69) rfl
theorem am_k1029 : Cond.selects RX7 yX7_isNewName yX7_isNewName ∈ lw_tbl := am_tp1 (i := 9) (q := (yX7_isNewName, 6)) rfl
theorem am_k1030 : Cond.code yX7_isKept cX7_isKept 1 (some (.boolean)) ∈ lw_tbl := am_tb3 (i := 74) rfl
theorem am_k1031 : Cond.instanceMethod yX7_isKept ∈ lw_tbl := am_tb3 (i := 73) rfl
theorem am_k1032 : Cond.selects RX7 yX7_isKept yX7_isKept ∈ lw_tbl := am_tp1 (i := 10) (q := (yX7_isKept, 6)) rfl
theorem am_k1033 : Cond.code yX7_isNumber cX7_isNumber 3 (some (.boolean)) ∈ lw_tbl := am_tb3 (i := 95) rfl
theorem am_k1034 : Cond.instanceMethod yX7_isNumber ∈ lw_tbl := am_tb3 (i := 94) rfl
theorem am_k1035 : Cond.selects RX7 yX7_isNumber yX7_isNumber ∈ lw_tbl := am_tp1 (i := 11) (q := (yX7_isNumber, 6)) rfl
theorem am_k1036 : Cond.code yX7_personHere cX7_personHere 2 (some (.int)) ∈ lw_tbl := am_tb3 (i := 147) rfl
theorem am_k1037 : Cond.instanceMethod yX7_personHere ∈ lw_tbl := am_tb3 (i := 146) rfl
theorem am_k1038 : Cond.selects RX7 yX7_personHere yX7_personHere ∈ lw_tbl := am_tp2 (i := 0) (q := (yX7_personHere, 6)) rfl
theorem am_k1039 : Cond.code yX7_sortHere cX7_sortHere 2 (some (.int)) ∈ lw_tbl := am_tb3 (i := 131) rfl
theorem am_k1040 : Cond.instanceMethod yX7_sortHere ∈ lw_tbl := am_tb3 (i := 130) rfl
theorem am_k1041 : Cond.selects RX7 yX7_sortHere yX7_sortHere ∈ lw_tbl := am_tp1 (i := 15) (q := (yX7_sortHere, 6)) rfl
theorem am_k1042 : Cond.code yX7_closes cX7_closes 1 (some (.boolean)) ∈ lw_tbl := am_tb3 (i := 99) rfl
theorem am_k1043 : Cond.instanceMethod yX7_closes ∈ lw_tbl := am_tb3 (i := 98) rfl
theorem am_k1044 : Cond.selects RX7 yX7_closes yX7_closes ∈ lw_tbl := am_tp1 (i := 12) (q := (yX7_closes, 6)) rfl
theorem am_k1045 : Cond.code yX7_says cX7_says 3 (some (.boolean)) ∈ lw_tbl := am_tb3 (i := 10) rfl
theorem am_k1046 : Cond.instanceMethod yX7_says ∈ lw_tbl := am_tb3 (i := 9) rfl
theorem am_k1047 : Cond.selects RX7 yX7_says yX7_says ∈ lw_tbl := am_tp1 (i := 7) (q := (yX7_says, 6)) rfl
theorem am_k1048 : Cond.code yX7_step cX7_step 2 none ∈ lw_tbl := am_tb2 (i := 214) rfl
theorem am_k1049 : Cond.instanceMethod yX7_step ∈ lw_tbl := am_tb2 (i := 213) rfl
theorem am_k1050 : Cond.selects RX7 yX7_step yX7_step ∈ lw_tbl := am_tp1 (i := 3) (q := (yX7_step, 6)) rfl
theorem am_k1051 : Cond.code yX7_takeWord cX7_takeWord 1 none ∈ lw_tbl := am_tb2 (i := 229) rfl
theorem am_k1052 : Cond.instanceMethod yX7_takeWord ∈ lw_tbl := am_tb2 (i := 228) rfl
theorem am_k1053 : Cond.selects RX7 yX7_takeWord yX7_takeWord ∈ lw_tbl := am_tp1 (i := 4) (q := (yX7_takeWord, 6)) rfl
theorem am_k1054 : Cond.code yX7_takeNumber cX7_takeNumber 1 none ∈ lw_tbl := am_tb2 (i := 238) rfl
theorem am_k1055 : Cond.instanceMethod yX7_takeNumber ∈ lw_tbl := am_tb2 (i := 237) rfl
theorem am_k1056 : Cond.selects RX7 yX7_takeNumber yX7_takeNumber ∈ lw_tbl := am_tp1 (i := 5) (q := (yX7_takeNumber, 6)) rfl
theorem am_k1057 : Cond.code yX7_isBlank cX7_isBlank 1 (some (.boolean)) ∈ lw_tbl := am_tb2 (i := 222) rfl
theorem am_k1058 : Cond.static yX7_isBlank ∈ lw_tbl := am_tb2 (i := 221) rfl
theorem am_k1059 : Cond.code yX7_isLetter cX7_isLetter 1 (some (.boolean)) ∈ lw_tbl := am_tb2 (i := 225) rfl
theorem am_k1060 : Cond.static yX7_isLetter ∈ lw_tbl := am_tb2 (i := 224) rfl
theorem am_k1061 : Cond.code yX7_isDigit cX7_isDigit 1 (some (.boolean)) ∈ lw_tbl := am_tb2 (i := 234) rfl
theorem am_k1062 : Cond.static yX7_isDigit ∈ lw_tbl := am_tb2 (i := 233) rfl
theorem am_k1063 : Cond.code yX8_init cX8_init 1 none ∈ lw_tbl := am_tb1 (i := 34) rfl
theorem am_k1064 : Cond.instanceMethod yX8_init ∈ lw_tbl := am_tb1 (i := 33) rfl
theorem am_k1065 : Cond.code yX8_size cX8_size 1 (some (.int)) ∈ lw_tbl := am_tb2 (i := 186) rfl
theorem am_k1066 : Cond.instanceMethod yX8_size ∈ lw_tbl := am_tb2 (i := 184) rfl
theorem am_k1067 : Cond.selects RX8 yX8_size yX8_size ∈ lw_tbl := am_tb2 (i := 185) rfl
theorem am_k1068 : Cond.code yX8_hasRoom cX8_hasRoom 2 (some (.boolean)) ∈ lw_tbl := am_tb2 (i := 164) rfl
theorem am_k1069 : Cond.instanceMethod yX8_hasRoom ∈ lw_tbl := am_tb2 (i := 162) rfl
theorem am_k1070 : Cond.selects RX8 yX8_hasRoom yX8_hasRoom ∈ lw_tbl := am_tb2 (i := 163) rfl
theorem am_k1071 : Cond.code yX8_addNumber cX8_addNumber 2 none ∈ lw_tbl := am_tb2 (i := 178) rfl
theorem am_k1072 : Cond.instanceMethod yX8_addNumber ∈ lw_tbl := am_tb2 (i := 176) rfl
theorem am_k1073 : Cond.selects RX8 yX8_addNumber yX8_addNumber ∈ lw_tbl := am_tb2 (i := 177) rfl
theorem am_k1074 : Cond.code yX8_addByte cX8_addByte 2 none ∈ lw_tbl := am_tb2 (i := 182) rfl
theorem am_k1075 : Cond.instanceMethod yX8_addByte ∈ lw_tbl := am_tb2 (i := 181) rfl
theorem am_k1076 : Cond.selects RX8 yX8_addByte yX8_addByte ∈ lw_tbl := am_tp1 (i := 1) (q := (yX8_addByte, 2)) rfl
theorem am_k1077 : Cond.code yX8_cut cX8_cut 2 none ∈ lw_tbl := am_tb2 (i := 198) rfl
theorem am_k1078 : Cond.instanceMethod yX8_cut ∈ lw_tbl := am_tb2 (i := 196) rfl
theorem am_k1079 : Cond.selects RX8 yX8_cut yX8_cut ∈ lw_tbl := am_tb2 (i := 197) rfl
theorem am_k1080 : Cond.code yX8_byteAt cX8_byteAt 2 (some (.int)) ∈ lw_tbl := am_tb2 (i := 219) rfl
theorem am_k1081 : Cond.instanceMethod yX8_byteAt ∈ lw_tbl := am_tb2 (i := 217) rfl
theorem am_k1082 : Cond.selects RX8 yX8_byteAt yX8_byteAt ∈ lw_tbl := am_tb2 (i := 218) rfl
theorem am_k1083 : Cond.code yX9_init cX9_init 1 none ∈ lw_tbl := am_tb1 (i := 197) rfl
theorem am_k1084 : Cond.instanceMethod yX9_init ∈ lw_tbl := am_tb1 (i := 196) rfl
theorem am_k1085 : Cond.code yX9_clear cX9_clear 1 none ∈ lw_tbl := am_tb5 (i := 95) rfl
theorem am_k1086 : Cond.instanceMethod yX9_clear ∈ lw_tbl := am_tb5 (i := 93) rfl
theorem am_k1087 : Cond.selects RX9 yX9_clear yX9_clear ∈ lw_tbl := am_tb5 (i := 94) rfl
theorem am_k1088 : Cond.code yX9_add cX9_add 7 none ∈ lw_tbl := am_tb5 (i := 124) rfl
theorem am_k1089 : Cond.instanceMethod yX9_add ∈ lw_tbl := am_tb5 (i := 122) rfl
theorem am_k1090 : Cond.selects RX9 yX9_add yX9_add ∈ lw_tbl := am_tb5 (i := 123) rfl
theorem am_k1091 : Cond.code yX9_isOf cX9_isOf 4 (some (.boolean)) ∈ lw_tbl := am_tb5 (i := 212) rfl
theorem am_k1092 : Cond.instanceMethod yX9_isOf ∈ lw_tbl := am_tb5 (i := 211) rfl
theorem am_k1093 : Cond.selects RX9 yX9_isOf yX9_isOf ∈ lw_tbl := am_tp3 (i := 7) (q := (yX9_isOf, 8)) rfl
theorem am_k1094 : Cond.code yX9_howMany cX9_howMany 5 (some (.int)) ∈ lw_tbl := am_tb5 (i := 208) rfl
theorem am_k1095 : Cond.instanceMethod yX9_howMany ∈ lw_tbl := am_tb5 (i := 206) rfl
theorem am_k1096 : Cond.selects RX9 yX9_howMany yX9_howMany ∈ lw_tbl := am_tb5 (i := 207) rfl
theorem am_k1097 : Cond.code yX9_howFar cX9_howFar 5 (some (.int)) ∈ lw_tbl := am_tb5 (i := 216) rfl
theorem am_k1098 : Cond.instanceMethod yX9_howFar ∈ lw_tbl := am_tb5 (i := 214) rfl
theorem am_k1099 : Cond.selects RX9 yX9_howFar yX9_howFar ∈ lw_tbl := am_tb5 (i := 215) rfl
theorem am_k1100 : Cond.code yX9_exchanged cX9_exchanged 6 (some (.int)) ∈ lw_tbl := am_tb5 (i := 221) rfl
theorem am_k1101 : Cond.instanceMethod yX9_exchanged ∈ lw_tbl := am_tb5 (i := 219) rfl
theorem am_k1102 : Cond.selects RX9 yX9_exchanged yX9_exchanged ∈ lw_tbl := am_tb5 (i := 220) rfl
theorem am_k1103 : Cond.code yX9_daysLater cX9_daysLater 6 (some (.int)) ∈ lw_tbl := am_tb5 (i := 233) rfl
theorem am_k1104 : Cond.instanceMethod yX9_daysLater ∈ lw_tbl := am_tb5 (i := 231) rfl
theorem am_k1105 : Cond.selects RX9 yX9_daysLater yX9_daysLater ∈ lw_tbl := am_tb5 (i := 232) rfl
theorem am_k1106 : Cond.code yX10_init cX10_init 1 none ∈ lw_tbl := am_tb1 (i := 161) rfl
theorem am_k1107 : Cond.instanceMethod yX10_init ∈ lw_tbl := am_tb1 (i := 160) rfl
theorem am_k1108 : Cond.code yX10_setPlace cX10_setPlace 3 none ∈ lw_tbl := am_tb5 (i := 56) rfl
theorem am_k1109 : Cond.instanceMethod yX10_setPlace ∈ lw_tbl := am_tb5 (i := 54) rfl
theorem am_k1110 : Cond.selects RX10 yX10_setPlace yX10_setPlace ∈ lw_tbl := am_tb5 (i := 55) rfl
theorem am_k1111 : Cond.code yX10_leastWay cX10_leastWay 12 (some (.int)) ∈ lw_tbl := am_tb5 (i := 64) rfl
theorem am_k1112 : Cond.instanceMethod yX10_leastWay ∈ lw_tbl := am_tb5 (i := 62) rfl
theorem am_k1113 : Cond.selects RX10 yX10_leastWay yX10_leastWay ∈ lw_tbl := am_tb5 (i := 63) rfl
theorem am_k1114 : Cond.code yX10_farOf cX10_farOf 1 (some (.int)) ∈ lw_tbl := am_tb5 (i := 71) rfl
theorem am_k1115 : Cond.static yX10_farOf ∈ lw_tbl := am_tb5 (i := 70) rfl
theorem am_k1116 : Cond.code yX10_isHomeBehind cX10_isHomeBehind 2 (some (.boolean)) ∈ lw_tbl := am_tb5 (i := 129) rfl
theorem am_k1117 : Cond.static yX10_isHomeBehind ∈ lw_tbl := am_tb5 (i := 128) rfl
theorem am_k1118 : Cond.code yX11_init cX11_init 2 none ∈ lw_tbl := am_tb1 (i := 26) rfl
theorem am_k1119 : Cond.instanceMethod yX11_init ∈ lw_tbl := am_tb1 (i := 25) rfl
theorem am_k1120 : Cond.code yX11_feed cX11_feed 6 (some (.int)) ∈ lw_tbl := am_tb2 (i := 160) rfl
theorem am_k1121 : Cond.instanceMethod yX11_feed ∈ lw_tbl := am_tb2 (i := 158) rfl
theorem am_k1122 : Cond.selects RX11 yX11_feed yX11_feed ∈ lw_tbl := am_tb2 (i := 159) rfl
theorem am_k1123 : Cond.code yX11_end cX11_end 2 (some (.boolean)) ∈ lw_tbl := am_tb2 (i := 190) rfl
theorem am_k1124 : Cond.instanceMethod yX11_end ∈ lw_tbl := am_tb2 (i := 188) rfl
theorem am_k1125 : Cond.selects RX11 yX11_end yX11_end ∈ lw_tbl := am_tb2 (i := 189) rfl
theorem am_k1126 : Cond.code yX11_fault cX11_fault 1 (some (.int)) ∈ lw_tbl := am_tb2 (i := 202) rfl
theorem am_k1127 : Cond.instanceMethod yX11_fault ∈ lw_tbl := am_tb2 (i := 200) rfl
theorem am_k1128 : Cond.selects RX11 yX11_fault yX11_fault ∈ lw_tbl := am_tb2 (i := 201) rfl
theorem am_k1129 : Cond.code yX11_land cX11_land 2 (some (.int)) ∈ lw_tbl := am_tb3 (i := 225) rfl
theorem am_k1130 : Cond.instanceMethod yX11_land ∈ lw_tbl := am_tb3 (i := 223) rfl
theorem am_k1131 : Cond.selects RX11 yX11_land yX11_land ∈ lw_tbl := am_tb3 (i := 224) rfl
theorem am_k1132 : Cond.code yX11_person cX11_person 3 (some (.int)) ∈ lw_tbl := am_tb4 (i := 25) rfl
theorem am_k1133 : Cond.instanceMethod yX11_person ∈ lw_tbl := am_tb4 (i := 23) rfl
theorem am_k1134 : Cond.selects RX11 yX11_person yX11_person ∈ lw_tbl := am_tb4 (i := 24) rfl
theorem am_k1135 : Cond.code yX11_want cX11_want 3 (some (.int)) ∈ lw_tbl := am_tb4 (i := 55) rfl
theorem am_k1136 : Cond.instanceMethod yX11_want ∈ lw_tbl := am_tb4 (i := 53) rfl
theorem am_k1137 : Cond.selects RX11 yX11_want yX11_want ∈ lw_tbl := am_tb4 (i := 54) rfl
theorem am_k1138 : Cond.code yX11_thing cX11_thing 3 (some (.int)) ∈ lw_tbl := am_tb4 (i := 77) rfl
theorem am_k1139 : Cond.instanceMethod yX11_thing ∈ lw_tbl := am_tb4 (i := 75) rfl
theorem am_k1140 : Cond.selects RX11 yX11_thing yX11_thing ∈ lw_tbl := am_tb4 (i := 76) rfl
theorem am_k1141 : Cond.code yX11_chain cX11_chain 4 (some (.int)) ∈ lw_tbl := am_tb4 (i := 94) rfl
theorem am_k1142 : Cond.instanceMethod yX11_chain ∈ lw_tbl := am_tb4 (i := 92) rfl
theorem am_k1143 : Cond.selects RX11 yX11_chain yX11_chain ∈ lw_tbl := am_tb4 (i := 93) rfl
theorem am_k1144 : Cond.code yX11_lend cX11_lend 4 (some (.int)) ∈ lw_tbl := am_tb4 (i := 99) rfl
theorem am_k1145 : Cond.instanceMethod yX11_lend ∈ lw_tbl := am_tb4 (i := 97) rfl
theorem am_k1146 : Cond.selects RX11 yX11_lend yX11_lend ∈ lw_tbl := am_tb4 (i := 98) rfl
theorem am_k1147 : Cond.code yX11_back cX11_back 2 (some (.int)) ∈ lw_tbl := am_tb4 (i := 128) rfl
theorem am_k1148 : Cond.instanceMethod yX11_back ∈ lw_tbl := am_tb4 (i := 126) rfl
theorem am_k1149 : Cond.selects RX11 yX11_back yX11_back ∈ lw_tbl := am_tb4 (i := 127) rfl
theorem am_k1150 : Cond.code yX11_go cX11_go 4 (some (.int)) ∈ lw_tbl := am_tb4 (i := 136) rfl
theorem am_k1151 : Cond.instanceMethod yX11_go ∈ lw_tbl := am_tb4 (i := 134) rfl
theorem am_k1152 : Cond.selects RX11 yX11_go yX11_go ∈ lw_tbl := am_tb4 (i := 135) rfl
theorem am_k1153 : Cond.code yX11_lose cX11_lose 2 (some (.boolean)) ∈ lw_tbl := am_tb4 (i := 152) rfl
theorem am_k1154 : Cond.instanceMethod yX11_lose ∈ lw_tbl := am_tb4 (i := 150) rfl
theorem am_k1155 : Cond.selects RX11 yX11_lose yX11_lose ∈ lw_tbl := am_tb4 (i := 151) rfl
theorem am_k1156 : Cond.code yX11_law cX11_law 2 (some (.boolean)) ∈ lw_tbl := am_tb4 (i := 160) rfl
theorem am_k1157 : Cond.instanceMethod yX11_law ∈ lw_tbl := am_tb4 (i := 158) rfl
theorem am_k1158 : Cond.selects RX11 yX11_law yX11_law ∈ lw_tbl := am_tb4 (i := 159) rfl
theorem am_k1159 : Cond.code yX11_owes cX11_owes 3 (some (.int)) ∈ lw_tbl := am_tb4 (i := 168) rfl
theorem am_k1160 : Cond.instanceMethod yX11_owes ∈ lw_tbl := am_tb4 (i := 166) rfl
theorem am_k1161 : Cond.selects RX11 yX11_owes yX11_owes ∈ lw_tbl := am_tb4 (i := 167) rfl
theorem am_k1162 : Cond.code yX11_balance cX11_balance 4 (some (.int)) ∈ lw_tbl := am_tb4 (i := 185) rfl
theorem am_k1163 : Cond.instanceMethod yX11_balance ∈ lw_tbl := am_tb4 (i := 183) rfl
theorem am_k1164 : Cond.selects RX11 yX11_balance yX11_balance ∈ lw_tbl := am_tb4 (i := 184) rfl
theorem am_k1165 : Cond.code yX11_met cX11_met 2 (some (.int)) ∈ lw_tbl := am_tb4 (i := 190) rfl
theorem am_k1166 : Cond.instanceMethod yX11_met ∈ lw_tbl := am_tb4 (i := 188) rfl
theorem am_k1167 : Cond.selects RX11 yX11_met yX11_met ∈ lw_tbl := am_tb4 (i := 189) rfl
theorem am_k1168 : Cond.code yX11_shorts cX11_shorts 4 (some (.int)) ∈ lw_tbl := am_tb5 (i := 140) rfl
theorem am_k1169 : Cond.instanceMethod yX11_shorts ∈ lw_tbl := am_tb5 (i := 138) rfl
theorem am_k1170 : Cond.selects RX11 yX11_shorts yX11_shorts ∈ lw_tbl := am_tb5 (i := 139) rfl
theorem am_k1171 : Cond.code yX11_price cX11_price 4 (some (.int)) ∈ lw_tbl := am_tb5 (i := 151) rfl
theorem am_k1172 : Cond.instanceMethod yX11_price ∈ lw_tbl := am_tb5 (i := 149) rfl
theorem am_k1173 : Cond.selects RX11 yX11_price yX11_price ∈ lw_tbl := am_tb5 (i := 150) rfl
theorem am_k1174 : Cond.code yX11_longer cX11_longer 5 (some (.int)) ∈ lw_tbl := am_tb5 (i := 169) rfl
theorem am_k1175 : Cond.instanceMethod yX11_longer ∈ lw_tbl := am_tb5 (i := 167) rfl
theorem am_k1176 : Cond.selects RX11 yX11_longer yX11_longer ∈ lw_tbl := am_tb5 (i := 168) rfl
theorem am_k1177 : Cond.code yX11_other cX11_other 3 (some (.int)) ∈ lw_tbl := am_tb5 (i := 177) rfl
theorem am_k1178 : Cond.instanceMethod yX11_other ∈ lw_tbl := am_tb5 (i := 175) rfl
theorem am_k1179 : Cond.selects RX11 yX11_other yX11_other ∈ lw_tbl := am_tb5 (i := 176) rfl
theorem am_k1180 : Cond.code yX11_given cX11_given 2 (some (.int)) ∈ lw_tbl := am_tb5 (i := 184) rfl
theorem am_k1181 : Cond.instanceMethod yX11_given ∈ lw_tbl := am_tb5 (i := 182) rfl
theorem am_k1182 : Cond.selects RX11 yX11_given yX11_given ∈ lw_tbl := am_tb5 (i := 183) rfl
theorem am_k1183 : Cond.code yX11_carry cX11_carry 3 (some (.int)) ∈ lw_tbl := am_tb5 (i := 189) rfl
theorem am_k1184 : Cond.instanceMethod yX11_carry ∈ lw_tbl := am_tb5 (i := 187) rfl
theorem am_k1185 : Cond.selects RX11 yX11_carry yX11_carry ∈ lw_tbl := am_tb5 (i := 188) rfl
theorem am_k1186 : Cond.code yX11_moves cX11_moves 5 (some (.int)) ∈ lw_tbl := am_tb5 (i := 200) rfl
theorem am_k1187 : Cond.instanceMethod yX11_moves ∈ lw_tbl := am_tb5 (i := 198) rfl
theorem am_k1188 : Cond.selects RX11 yX11_moves yX11_moves ∈ lw_tbl := am_tb5 (i := 199) rfl
theorem am_k1189 : Cond.code yX11_spread cX11_spread 1 (some (.int)) ∈ lw_tbl := am_tb5 (i := 225) rfl
theorem am_k1190 : Cond.instanceMethod yX11_spread ∈ lw_tbl := am_tb5 (i := 223) rfl
theorem am_k1191 : Cond.selects RX11 yX11_spread yX11_spread ∈ lw_tbl := am_tb5 (i := 224) rfl
theorem am_k1192 : Cond.code yX11_late cX11_late 4 (some (.int)) ∈ lw_tbl := am_tb5 (i := 238) rfl
theorem am_k1193 : Cond.instanceMethod yX11_late ∈ lw_tbl := am_tb5 (i := 236) rfl
theorem am_k1194 : Cond.selects RX11 yX11_late yX11_late ∈ lw_tbl := am_tb5 (i := 237) rfl
theorem am_k1195 : Cond.code yX11_bears cX11_bears 2 (some (.int)) ∈ lw_tbl := am_tb6 (i := 29) rfl
theorem am_k1196 : Cond.instanceMethod yX11_bears ∈ lw_tbl := am_tb6 (i := 27) rfl
theorem am_k1197 : Cond.selects RX11 yX11_bears yX11_bears ∈ lw_tbl := am_tb6 (i := 28) rfl
theorem am_k1198 : Cond.code yX11_dies cX11_dies 4 (some (.int)) ∈ lw_tbl := am_tb6 (i := 38) rfl
theorem am_k1199 : Cond.instanceMethod yX11_dies ∈ lw_tbl := am_tb6 (i := 36) rfl
theorem am_k1200 : Cond.selects RX11 yX11_dies yX11_dies ∈ lw_tbl := am_tb6 (i := 37) rfl
theorem am_k1201 : Cond.code yX11_entry cX11_entry 3 (some (.int)) ∈ lw_tbl := am_tb6 (i := 57) rfl
theorem am_k1202 : Cond.instanceMethod yX11_entry ∈ lw_tbl := am_tb6 (i := 55) rfl
theorem am_k1203 : Cond.selects RX11 yX11_entry yX11_entry ∈ lw_tbl := am_tb6 (i := 56) rfl
theorem am_k1204 : Cond.code yX11_undo cX11_undo 1 (some (.int)) ∈ lw_tbl := am_tb6 (i := 70) rfl
theorem am_k1205 : Cond.instanceMethod yX11_undo ∈ lw_tbl := am_tb6 (i := 68) rfl
theorem am_k1206 : Cond.selects RX11 yX11_undo yX11_undo ∈ lw_tbl := am_tb6 (i := 69) rfl
theorem am_k1207 : Cond.code yX11_earth cX11_earth 2 (some (.int)) ∈ lw_tbl := am_tb6 (i := 78) rfl
theorem am_k1208 : Cond.instanceMethod yX11_earth ∈ lw_tbl := am_tb6 (i := 76) rfl
theorem am_k1209 : Cond.selects RX11 yX11_earth yX11_earth ∈ lw_tbl := am_tb6 (i := 77) rfl
theorem am_k1210 : Cond.code yX11_years cX11_years 4 (some (.int)) ∈ lw_tbl := am_tb6 (i := 113) rfl
theorem am_k1211 : Cond.instanceMethod yX11_years ∈ lw_tbl := am_tb6 (i := 111) rfl
theorem am_k1212 : Cond.selects RX11 yX11_years yX11_years ∈ lw_tbl := am_tb6 (i := 112) rfl
theorem am_k1213 : Cond.code yX11_image cX11_image 3 (some (.boolean)) ∈ lw_tbl := am_tb6 (i := 128) rfl
theorem am_k1214 : Cond.instanceMethod yX11_image ∈ lw_tbl := am_tb6 (i := 126) rfl
theorem am_k1215 : Cond.selects RX11 yX11_image yX11_image ∈ lw_tbl := am_tb6 (i := 127) rfl
theorem am_k1216 : Cond.code yX11_on cX11_on 3 (some (.boolean)) ∈ lw_tbl := am_tb6 (i := 143) rfl
theorem am_k1217 : Cond.instanceMethod yX11_on ∈ lw_tbl := am_tb6 (i := 141) rfl
theorem am_k1218 : Cond.selects RX11 yX11_on yX11_on ∈ lw_tbl := am_tb6 (i := 142) rfl
theorem am_k1219 : Cond.code yX11_status cX11_status 2 (some (.int)) ∈ lw_tbl := am_tb6 (i := 151) rfl
theorem am_k1220 : Cond.instanceMethod yX11_status ∈ lw_tbl := am_tb6 (i := 149) rfl
theorem am_k1221 : Cond.selects RX11 yX11_status yX11_status ∈ lw_tbl := am_tb6 (i := 150) rfl
theorem am_k1222 : Cond.code yX11_count cX11_count 2 (some (.int)) ∈ lw_tbl := am_tb6 (i := 155) rfl
theorem am_k1223 : Cond.instanceMethod yX11_count ∈ lw_tbl := am_tb6 (i := 153) rfl
theorem am_k1224 : Cond.selects RX11 yX11_count yX11_count ∈ lw_tbl := am_tb6 (i := 154) rfl
theorem am_k1225 : Cond.code yX11_countInLand cX11_countInLand 2 (some (.int)) ∈ lw_tbl := am_tb6 (i := 159) rfl
theorem am_k1226 : Cond.instanceMethod yX11_countInLand ∈ lw_tbl := am_tb6 (i := 158) rfl
theorem am_k1227 : Cond.selects RX11 yX11_countInLand yX11_countInLand ∈ lw_tbl := am_tp3 (i := 15) (q := (yX11_countInLand, 12)) rfl
theorem am_k1228 : Cond.code yX11_refuse cX11_refuse 2 (some (.int)) ∈ lw_tbl := am_tb2 (i := 168) rfl
theorem am_k1229 : Cond.instanceMethod yX11_refuse ∈ lw_tbl := am_tb2 (i := 167) rfl
theorem am_k1230 : Cond.selects RX11 yX11_refuse yX11_refuse ∈ lw_tbl := am_tp1 (i := 0) (q := (yX11_refuse, 12)) rfl
theorem am_k1231 : Cond.code yX11_deny cX11_deny 2 (some (.boolean)) ∈ lw_tbl := am_tb2 (i := 194) rfl
theorem am_k1232 : Cond.instanceMethod yX11_deny ∈ lw_tbl := am_tb2 (i := 193) rfl
theorem am_k1233 : Cond.selects RX11 yX11_deny yX11_deny ∈ lw_tbl := am_tp1 (i := 2) (q := (yX11_deny, 12)) rfl
theorem am_k1234 : Cond.code yX11_imageOf cX11_imageOf 2 (some (.object "OnlyLent$Holdings")) ∈ lw_tbl := am_tb6 (i := 132) rfl
theorem am_k1235 : Cond.instanceMethod yX11_imageOf ∈ lw_tbl := am_tb6 (i := 131) rfl
theorem am_k1236 : Cond.selects RX11 yX11_imageOf yX11_imageOf ∈ lw_tbl := am_tp3 (i := 14) (q := (yX11_imageOf, 12)) rfl
theorem am_k1237 : Cond.code yX11_dropImages cX11_dropImages 3 none ∈ lw_tbl := am_tb4 (i := 8) rfl
theorem am_k1238 : Cond.instanceMethod yX11_dropImages ∈ lw_tbl := am_tb4 (i := 7) rfl
theorem am_k1239 : Cond.selects RX11 yX11_dropImages yX11_dropImages ∈ lw_tbl := am_tp2 (i := 7) (q := (yX11_dropImages, 12)) rfl
theorem am_k1240 : Cond.code yX11_prepare cX11_prepare 1 none ∈ lw_tbl := am_tb4 (i := 194) rfl
theorem am_k1241 : Cond.instanceMethod yX11_prepare ∈ lw_tbl := am_tb4 (i := 193) rfl
theorem am_k1242 : Cond.selects RX11 yX11_prepare yX11_prepare ∈ lw_tbl := am_tp2 (i := 11) (q := (yX11_prepare, 12)) rfl
theorem am_k1243 : Cond.code yX11_metOfSort cX11_metOfSort 2 (some (.int)) ∈ lw_tbl := am_tb5 (i := 165) rfl
theorem am_k1244 : Cond.instanceMethod yX11_metOfSort ∈ lw_tbl := am_tb5 (i := 164) rfl
theorem am_k1245 : Cond.selects RX11 yX11_metOfSort yX11_metOfSort ∈ lw_tbl := am_tp3 (i := 6) (q := (yX11_metOfSort, 12)) rfl
theorem am_k1246 : Cond.code yX11_lostByDeath cX11_lostByDeath 6 (some (.int)) ∈ lw_tbl := am_tb6 (i := 42) rfl
theorem am_k1247 : Cond.instanceMethod yX11_lostByDeath ∈ lw_tbl := am_tb6 (i := 41) rfl
theorem am_k1248 : Cond.selects RX11 yX11_lostByDeath yX11_lostByDeath ∈ lw_tbl := am_tp3 (i := 9) (q := (yX11_lostByDeath, 12)) rfl
theorem am_k1249 : Cond.code yX11_freedByDeath cX11_freedByDeath 5 (some (.int)) ∈ lw_tbl := am_tb6 (i := 53) rfl
theorem am_k1250 : Cond.instanceMethod yX11_freedByDeath ∈ lw_tbl := am_tb6 (i := 52) rfl
theorem am_k1251 : Cond.selects RX11 yX11_freedByDeath yX11_freedByDeath ∈ lw_tbl := am_tp3 (i := 10) (q := (yX11_freedByDeath, 12)) rfl
theorem am_k1252 : Cond.code yX11_at cX11_at 2 (some (.int)) ∈ lw_tbl := am_tb2 (i := 171) rfl
theorem am_k1253 : Cond.static yX11_at ∈ lw_tbl := am_tb2 (i := 170) rfl
theorem am_k1254 : Cond.code yX11_put cX11_put 3 none ∈ lw_tbl := am_tb2 (i := 174) rfl
theorem am_k1255 : Cond.static yX11_put ∈ lw_tbl := am_tb2 (i := 173) rfl
theorem am_k1256 : Cond.code yX11_at_ cX11_at_ 2 (some (.long)) ∈ lw_tbl := am_tb3 (i := 87) rfl
theorem am_k1257 : Cond.static yX11_at_ ∈ lw_tbl := am_tb3 (i := 86) rfl
theorem am_k1258 : Cond.code yX11_put_ cX11_put_ 4 none ∈ lw_tbl := am_tb3 (i := 106) rfl
theorem am_k1259 : Cond.static yX11_put_ ∈ lw_tbl := am_tb3 (i := 105) rfl
theorem am_k1260 : Cond.code yX11_hasBit cX11_hasBit 2 (some (.boolean)) ∈ lw_tbl := am_tb3 (i := 143) rfl
theorem am_k1261 : Cond.static yX11_hasBit ∈ lw_tbl := am_tb3 (i := 142) rfl
theorem am_k1262 : Cond.code yX12_init cX12_init 1 none ∈ lw_tbl := am_tb6 (i := 172) rfl
theorem am_k1263 : Cond.instanceMethod yX12_init ∈ lw_tbl := am_tb6 (i := 171) rfl
theorem am_k1264 : Cond.code yX12_in cX12_in 6 (some (.boolean)) ∈ lw_tbl := am_tb7 (i := 134) rfl
theorem am_k1265 : Cond.static yX12_in ∈ lw_tbl := am_tb7 (i := 133) rfl
theorem am_k1266 : Cond.code yX12_refuse cX12_refuse 2 (some (.int)) ∈ lw_tbl := am_tb7 (i := 142) rfl
theorem am_k1267 : Cond.instanceMethod yX12_refuse ∈ lw_tbl := am_tb7 (i := 141) rfl
theorem am_k1268 : Cond.selects RX12 yX12_refuse yX12_refuse ∈ lw_tbl := am_tp4 (i := 0) (q := (yX12_refuse, 60)) rfl
theorem am_k1269 : Cond.code yX12_deny cX12_deny 2 (some (.boolean)) ∈ lw_tbl := am_tb7 (i := 154) rfl
theorem am_k1270 : Cond.instanceMethod yX12_deny ∈ lw_tbl := am_tb7 (i := 153) rfl
theorem am_k1271 : Cond.selects RX12 yX12_deny yX12_deny ∈ lw_tbl := am_tp4 (i := 2) (q := (yX12_deny, 60)) rfl
theorem am_k1272 : Cond.code yX12_status cX12_status 2 (some (.int)) ∈ lw_tbl := am_tb7 (i := 130) rfl
theorem am_k1273 : Cond.instanceMethod yX12_status ∈ lw_tbl := am_tb7 (i := 128) rfl
theorem am_k1274 : Cond.selects RX12 yX12_status yX12_status ∈ lw_tbl := am_tb7 (i := 129) rfl
theorem am_k1275 : Cond.code yX12_feeds cX12_feeds 3 none ∈ lw_tbl := am_tb7 (i := 146) rfl
theorem am_k1276 : Cond.instanceMethod yX12_feeds ∈ lw_tbl := am_tb7 (i := 145) rfl
theorem am_k1277 : Cond.selects RX12 yX12_feeds yX12_feeds ∈ lw_tbl := am_tp4 (i := 1) (q := (yX12_feeds, 60)) rfl
theorem am_k1278 : Cond.code yX12_feed cX12_feed 6 (some (.int)) ∈ lw_tbl := am_tb7 (i := 138) rfl
theorem am_k1279 : Cond.instanceMethod yX12_feed ∈ lw_tbl := am_tb7 (i := 136) rfl
theorem am_k1280 : Cond.selects RX12 yX12_feed yX12_feed ∈ lw_tbl := am_tb7 (i := 137) rfl
theorem am_k1281 : Cond.code yX12_end cX12_end 2 (some (.boolean)) ∈ lw_tbl := am_tb7 (i := 150) rfl
theorem am_k1282 : Cond.instanceMethod yX12_end ∈ lw_tbl := am_tb7 (i := 148) rfl
theorem am_k1283 : Cond.selects RX12 yX12_end yX12_end ∈ lw_tbl := am_tb7 (i := 149) rfl
theorem am_k1284 : Cond.code yX12_between cX12_between 4 (some (.boolean)) ∈ lw_tbl := am_tb7 (i := 170) rfl
theorem am_k1285 : Cond.instanceMethod yX12_between ∈ lw_tbl := am_tb7 (i := 169) rfl
theorem am_k1286 : Cond.selects RX12 yX12_between yX12_between ∈ lw_tbl := am_tp4 (i := 5) (q := (yX12_between, 60)) rfl
theorem am_k1287 : Cond.code yX12_next cX12_next 1 none ∈ lw_tbl := am_tb7 (i := 166) rfl
theorem am_k1288 : Cond.instanceMethod yX12_next ∈ lw_tbl := am_tb7 (i := 165) rfl
theorem am_k1289 : Cond.selects RX12 yX12_next yX12_next ∈ lw_tbl := am_tp4 (i := 4) (q := (yX12_next, 60)) rfl
theorem am_k1290 : Cond.code yX12_passes cX12_passes 2 (some (.boolean)) ∈ lw_tbl := am_tb7 (i := 184) rfl
theorem am_k1291 : Cond.instanceMethod yX12_passes ∈ lw_tbl := am_tb7 (i := 183) rfl
theorem am_k1292 : Cond.selects RX12 yX12_passes yX12_passes ∈ lw_tbl := am_tp4 (i := 8) (q := (yX12_passes, 60)) rfl
theorem am_k1293 : Cond.code yX12_wordHere cX12_wordHere 4 (some (.int)) ∈ lw_tbl := am_tb7 (i := 178) rfl
theorem am_k1294 : Cond.instanceMethod yX12_wordHere ∈ lw_tbl := am_tb7 (i := 177) rfl
theorem am_k1295 : Cond.selects RX12 yX12_wordHere yX12_wordHere ∈ lw_tbl := am_tp4 (i := 7) (q := (yX12_wordHere, 60)) rfl
theorem am_k1296 : Cond.code yX12_closes cX12_closes 1 (some (.boolean)) ∈ lw_tbl := am_tb7 (i := 207) rfl
theorem am_k1297 : Cond.instanceMethod yX12_closes ∈ lw_tbl := am_tb7 (i := 206) rfl
theorem am_k1298 : Cond.selects RX12 yX12_closes yX12_closes ∈ lw_tbl := am_tp4 (i := 13) (q := (yX12_closes, 60)) rfl
theorem am_k1299 : Cond.code yX12_into cX12_into 6 (some (.boolean)) ∈ lw_tbl := am_tb7 (i := 203) rfl
theorem am_k1300 : Cond.instanceMethod yX12_into ∈ lw_tbl := am_tb7 (i := 202) rfl
theorem am_k1301 : Cond.selects RX12 yX12_into yX12_into ∈ lw_tbl := am_tp4 (i := 12) (q := (yX12_into, 60)) rfl
theorem am_k1302 : Cond.code yX12_nameHere cX12_nameHere 4 (some (.long)) ∈ lw_tbl := am_tb7 (i := 192) rfl
theorem am_k1303 : Cond.instanceMethod yX12_nameHere ∈ lw_tbl := am_tb7 (i := 191) rfl
theorem am_k1304 : Cond.selects RX12 yX12_nameHere yX12_nameHere ∈ lw_tbl := am_tp4 (i := 10) (q := (yX12_nameHere, 60)) rfl
theorem am_k1305 : Cond.code yX12_found cX12_found 5 (some (.int)) ∈ lw_tbl := am_tb7 (i := 199) rfl
theorem am_k1306 : Cond.instanceMethod yX12_found ∈ lw_tbl := am_tb7 (i := 198) rfl
theorem am_k1307 : Cond.selects RX12 yX12_found yX12_found ∈ lw_tbl := am_tp4 (i := 11) (q := (yX12_found, 60)) rfl
theorem am_k1308 : Cond.code yX12_isNew cX12_isNew 4 (some (.boolean)) ∈ lw_tbl := am_tb7 (i := 188) rfl
theorem am_k1309 : Cond.instanceMethod yX12_isNew ∈ lw_tbl := am_tb7 (i := 187) rfl
theorem am_k1310 : Cond.selects RX12 yX12_isNew yX12_isNew ∈ lw_tbl := am_tp4 (i := 9) (q := (yX12_isNew, 60)) rfl
theorem am_k1311 : Cond.code yX12_ofSort cX12_ofSort 6 (some (.int)) ∈ lw_tbl := am_tb7 (i := 215) rfl
theorem am_k1312 : Cond.instanceMethod yX12_ofSort ∈ lw_tbl := am_tb7 (i := 214) rfl
theorem am_k1313 : Cond.selects RX12 yX12_ofSort yX12_ofSort ∈ lw_tbl := am_tp4 (i := 15) (q := (yX12_ofSort, 60)) rfl
theorem am_k1314 : Cond.code yX12_thingRead cX12_thingRead 4 (some (.boolean)) ∈ lw_tbl := am_tb7 (i := 211) rfl
theorem am_k1315 : Cond.instanceMethod yX12_thingRead ∈ lw_tbl := am_tb7 (i := 210) rfl
theorem am_k1316 : Cond.selects RX12 yX12_thingRead yX12_thingRead ∈ lw_tbl := am_tp4 (i := 14) (q := (yX12_thingRead, 60)) rfl
theorem am_k1317 : Cond.code yX12_wantRead cX12_wantRead 4 (some (.boolean)) ∈ lw_tbl := am_tb7 (i := 219) rfl
theorem am_k1318 : Cond.instanceMethod yX12_wantRead ∈ lw_tbl := am_tb7 (i := 218) rfl
theorem am_k1319 : Cond.selects RX12 yX12_wantRead yX12_wantRead ∈ lw_tbl := am_tp5 (i := 0) (q := (yX12_wantRead, 60)) rfl
theorem am_k1320 : Cond.code yX12_heirRead cX12_heirRead 3 (some (.boolean)) ∈ lw_tbl := am_tb7 (i := 223) rfl
theorem am_k1321 : Cond.instanceMethod yX12_heirRead ∈ lw_tbl := am_tb7 (i := 222) rfl
theorem am_k1322 : Cond.selects RX12 yX12_heirRead yX12_heirRead ∈ lw_tbl := am_tp5 (i := 1) (q := (yX12_heirRead, 60)) rfl
theorem am_k1323 : Cond.code yX12_line cX12_line 2 (some (.boolean)) ∈ lw_tbl := am_tb7 (i := 174) rfl
theorem am_k1324 : Cond.instanceMethod yX12_line ∈ lw_tbl := am_tb7 (i := 173) rfl
theorem am_k1325 : Cond.selects RX12 yX12_line yX12_line ∈ lw_tbl := am_tp4 (i := 6) (q := (yX12_line, 60)) rfl
theorem am_k1326 : Cond.code yX12_reads cX12_reads 3 none ∈ lw_tbl := am_tb7 (i := 162) rfl
theorem am_k1327 : Cond.instanceMethod yX12_reads ∈ lw_tbl := am_tb7 (i := 161) rfl
theorem am_k1328 : Cond.selects RX12 yX12_reads yX12_reads ∈ lw_tbl := am_tp4 (i := 3) (q := (yX12_reads, 60)) rfl
theorem am_k1329 : Cond.code yX12_fault cX12_fault 1 (some (.int)) ∈ lw_tbl := am_tb7 (i := 158) rfl
theorem am_k1330 : Cond.instanceMethod yX12_fault ∈ lw_tbl := am_tb7 (i := 156) rfl
theorem am_k1331 : Cond.selects RX12 yX12_fault yX12_fault ∈ lw_tbl := am_tb7 (i := 157) rfl
theorem am_k1332 : Cond.code yX12_copies cX12_copies 2 none ∈ lw_tbl := am_tb7 (i := 230) rfl
theorem am_k1333 : Cond.static yX12_copies ∈ lw_tbl := am_tb7 (i := 229) rfl
theorem am_k1334 : Cond.code yX12_land cX12_land 2 (some (.int)) ∈ lw_tbl := am_tb7 (i := 227) rfl
theorem am_k1335 : Cond.instanceMethod yX12_land ∈ lw_tbl := am_tb7 (i := 225) rfl
theorem am_k1336 : Cond.selects RX12 yX12_land yX12_land ∈ lw_tbl := am_tb7 (i := 226) rfl
theorem am_k1337 : Cond.code yX12_people cX12_people 1 (some (.int)) ∈ lw_tbl := am_tb7 (i := 238) rfl
theorem am_k1338 : Cond.instanceMethod yX12_people ∈ lw_tbl := am_tb7 (i := 237) rfl
theorem am_k1339 : Cond.selects RX12 yX12_people yX12_people ∈ lw_tbl := am_tp5 (i := 3) (q := (yX12_people, 60)) rfl
theorem am_k1340 : Cond.code yX12_sorts cX12_sorts 1 (some (.int)) ∈ lw_tbl := am_tb8 (i := 89) rfl
theorem am_k1341 : Cond.instanceMethod yX12_sorts ∈ lw_tbl := am_tb8 (i := 88) rfl
theorem am_k1342 : Cond.selects RX12 yX12_sorts yX12_sorts ∈ lw_tbl := am_tp5 (i := 13) (q := (yX12_sorts, 60)) rfl
theorem am_k1343 : Cond.code yX12_things cX12_things 1 (some (.int)) ∈ lw_tbl := am_tb7 (i := 234) rfl
theorem am_k1344 : Cond.instanceMethod yX12_things ∈ lw_tbl := am_tb7 (i := 233) rfl
theorem am_k1345 : Cond.selects RX12 yX12_things yX12_things ∈ lw_tbl := am_tp5 (i := 2) (q := (yX12_things, 60)) rfl
theorem am_k1346 : Cond.code yX12_wants cX12_wants 1 (some (.int)) ∈ lw_tbl := am_tb8 (i := 22) rfl
theorem am_k1347 : Cond.instanceMethod yX12_wants ∈ lw_tbl := am_tb8 (i := 21) rfl
theorem am_k1348 : Cond.selects RX12 yX12_wants yX12_wants ∈ lw_tbl := am_tp5 (i := 7) (q := (yX12_wants, 60)) rfl
theorem am_k1349 : Cond.code yX12_isPerson cX12_isPerson 2 (some (.boolean)) ∈ lw_tbl := am_tb8 (i := 6) rfl
theorem am_k1350 : Cond.instanceMethod yX12_isPerson ∈ lw_tbl := am_tb8 (i := 5) rfl
theorem am_k1351 : Cond.selects RX12 yX12_isPerson yX12_isPerson ∈ lw_tbl := am_tp5 (i := 4) (q := (yX12_isPerson, 60)) rfl
theorem am_k1352 : Cond.code yX12_isSort cX12_isSort 2 (some (.boolean)) ∈ lw_tbl := am_tb8 (i := 130) rfl
theorem am_k1353 : Cond.instanceMethod yX12_isSort ∈ lw_tbl := am_tb8 (i := 129) rfl
theorem am_k1354 : Cond.selects RX12 yX12_isSort yX12_isSort ∈ lw_tbl := am_tp6 (i := 5) (q := (yX12_isSort, 60)) rfl
theorem am_k1355 : Cond.code yX12_isThing cX12_isThing 2 (some (.boolean)) ∈ lw_tbl := am_tb8 (i := 30) rfl
theorem am_k1356 : Cond.instanceMethod yX12_isThing ∈ lw_tbl := am_tb8 (i := 29) rfl
theorem am_k1357 : Cond.selects RX12 yX12_isThing yX12_isThing ∈ lw_tbl := am_tp5 (i := 8) (q := (yX12_isThing, 60)) rfl
theorem am_k1358 : Cond.code yX12_isWant cX12_isWant 2 (some (.boolean)) ∈ lw_tbl := am_tb8 (i := 18) rfl
theorem am_k1359 : Cond.instanceMethod yX12_isWant ∈ lw_tbl := am_tb8 (i := 17) rfl
theorem am_k1360 : Cond.selects RX12 yX12_isWant yX12_isWant ∈ lw_tbl := am_tp5 (i := 6) (q := (yX12_isWant, 60)) rfl
theorem am_k1361 : Cond.code yX12_far cX12_far 3 (some (.int)) ∈ lw_tbl := am_tb8 (i := 47) rfl
theorem am_k1362 : Cond.instanceMethod yX12_far ∈ lw_tbl := am_tb8 (i := 46) rfl
theorem am_k1363 : Cond.selects RX12 yX12_far yX12_far ∈ lw_tbl := am_tp5 (i := 10) (q := (yX12_far, 60)) rfl
theorem am_k1364 : Cond.code yX12_holder cX12_holder 2 (some (.int)) ∈ lw_tbl := am_tb8 (i := 10) rfl
theorem am_k1365 : Cond.instanceMethod yX12_holder ∈ lw_tbl := am_tb8 (i := 9) rfl
theorem am_k1366 : Cond.selects RX12 yX12_holder yX12_holder ∈ lw_tbl := am_tp5 (i := 5) (q := (yX12_holder, 60)) rfl
theorem am_k1367 : Cond.code yX12_till cX12_till 2 (some (.int)) ∈ lw_tbl := am_tb8 (i := 34) rfl
theorem am_k1368 : Cond.instanceMethod yX12_till ∈ lw_tbl := am_tb8 (i := 33) rfl
theorem am_k1369 : Cond.selects RX12 yX12_till yX12_till ∈ lw_tbl := am_tp5 (i := 9) (q := (yX12_till, 60)) rfl
theorem am_k1370 : Cond.code yX12_person cX12_person 5 (some (.int)) ∈ lw_tbl := am_tb8 (i := 2) rfl
theorem am_k1371 : Cond.instanceMethod yX12_person ∈ lw_tbl := am_tb8 (i := 0) rfl
theorem am_k1372 : Cond.selects RX12 yX12_person yX12_person ∈ lw_tbl := am_tb8 (i := 1) rfl
theorem am_k1373 : Cond.code yX12_want cX12_want 3 (some (.int)) ∈ lw_tbl := am_tb8 (i := 14) rfl
theorem am_k1374 : Cond.instanceMethod yX12_want ∈ lw_tbl := am_tb8 (i := 12) rfl
theorem am_k1375 : Cond.selects RX12 yX12_want yX12_want ∈ lw_tbl := am_tb8 (i := 13) rfl
theorem am_k1376 : Cond.code yX12_thing cX12_thing 3 (some (.int)) ∈ lw_tbl := am_tb8 (i := 26) rfl
theorem am_k1377 : Cond.instanceMethod yX12_thing ∈ lw_tbl := am_tb8 (i := 24) rfl
theorem am_k1378 : Cond.selects RX12 yX12_thing yX12_thing ∈ lw_tbl := am_tb8 (i := 25) rfl
theorem am_k1379 : Cond.code yX12_chain cX12_chain 4 (some (.int)) ∈ lw_tbl := am_tb8 (i := 38) rfl
theorem am_k1380 : Cond.instanceMethod yX12_chain ∈ lw_tbl := am_tb8 (i := 36) rfl
theorem am_k1381 : Cond.selects RX12 yX12_chain yX12_chain ∈ lw_tbl := am_tb8 (i := 37) rfl
theorem am_k1382 : Cond.code yX12_lend cX12_lend 6 (some (.int)) ∈ lw_tbl := am_tb8 (i := 42) rfl
theorem am_k1383 : Cond.instanceMethod yX12_lend ∈ lw_tbl := am_tb8 (i := 40) rfl
theorem am_k1384 : Cond.selects RX12 yX12_lend yX12_lend ∈ lw_tbl := am_tb8 (i := 41) rfl
theorem am_k1385 : Cond.code yX12_back cX12_back 4 (some (.int)) ∈ lw_tbl := am_tb8 (i := 52) rfl
theorem am_k1386 : Cond.instanceMethod yX12_back ∈ lw_tbl := am_tb8 (i := 50) rfl
theorem am_k1387 : Cond.selects RX12 yX12_back yX12_back ∈ lw_tbl := am_tb8 (i := 51) rfl
theorem am_k1388 : Cond.code yX12_go cX12_go 6 (some (.int)) ∈ lw_tbl := am_tb8 (i := 56) rfl
theorem am_k1389 : Cond.instanceMethod yX12_go ∈ lw_tbl := am_tb8 (i := 54) rfl
theorem am_k1390 : Cond.selects RX12 yX12_go yX12_go ∈ lw_tbl := am_tb8 (i := 55) rfl
theorem am_k1391 : Cond.code yX12_lose cX12_lose 2 (some (.boolean)) ∈ lw_tbl := am_tb8 (i := 60) rfl
theorem am_k1392 : Cond.instanceMethod yX12_lose ∈ lw_tbl := am_tb8 (i := 58) rfl
theorem am_k1393 : Cond.selects RX12 yX12_lose yX12_lose ∈ lw_tbl := am_tb8 (i := 59) rfl
theorem am_k1394 : Cond.code yX12_law cX12_law 2 (some (.boolean)) ∈ lw_tbl := am_tb8 (i := 64) rfl
theorem am_k1395 : Cond.instanceMethod yX12_law ∈ lw_tbl := am_tb8 (i := 62) rfl
theorem am_k1396 : Cond.selects RX12 yX12_law yX12_law ∈ lw_tbl := am_tb8 (i := 63) rfl
theorem am_k1397 : Cond.code yX12_owedOf cX12_owedOf 7 (some (.int)) ∈ lw_tbl := am_tb8 (i := 72) rfl
theorem am_k1398 : Cond.instanceMethod yX12_owedOf ∈ lw_tbl := am_tb8 (i := 71) rfl
theorem am_k1399 : Cond.selects RX12 yX12_owedOf yX12_owedOf ∈ lw_tbl := am_tp5 (i := 11) (q := (yX12_owedOf, 60)) rfl
theorem am_k1400 : Cond.code yX12_owes cX12_owes 3 (some (.int)) ∈ lw_tbl := am_tb8 (i := 68) rfl
theorem am_k1401 : Cond.instanceMethod yX12_owes ∈ lw_tbl := am_tb8 (i := 66) rfl
theorem am_k1402 : Cond.selects RX12 yX12_owes yX12_owes ∈ lw_tbl := am_tb8 (i := 67) rfl
theorem am_k1403 : Cond.code yX12_balance cX12_balance 4 (some (.int)) ∈ lw_tbl := am_tb8 (i := 76) rfl
theorem am_k1404 : Cond.instanceMethod yX12_balance ∈ lw_tbl := am_tb8 (i := 74) rfl
theorem am_k1405 : Cond.selects RX12 yX12_balance yX12_balance ∈ lw_tbl := am_tb8 (i := 75) rfl
theorem am_k1406 : Cond.code yX12_thingsOf cX12_thingsOf 4 (some (.int)) ∈ lw_tbl := am_tb8 (i := 101) rfl
theorem am_k1407 : Cond.instanceMethod yX12_thingsOf ∈ lw_tbl := am_tb8 (i := 100) rfl
theorem am_k1408 : Cond.selects RX12 yX12_thingsOf yX12_thingsOf ∈ lw_tbl := am_tp6 (i := 0) (q := (yX12_thingsOf, 60)) rfl
theorem am_k1409 : Cond.code yX12_endOf cX12_endOf 2 (some (.int)) ∈ lw_tbl := am_tb8 (i := 118) rfl
theorem am_k1410 : Cond.instanceMethod yX12_endOf ∈ lw_tbl := am_tb8 (i := 117) rfl
theorem am_k1411 : Cond.selects RX12 yX12_endOf yX12_endOf ∈ lw_tbl := am_tp6 (i := 4) (q := (yX12_endOf, 60)) rfl
theorem am_k1412 : Cond.code yX12_canMeet cX12_canMeet 6 (some (.boolean)) ∈ lw_tbl := am_tb8 (i := 114) rfl
theorem am_k1413 : Cond.instanceMethod yX12_canMeet ∈ lw_tbl := am_tb8 (i := 113) rfl
theorem am_k1414 : Cond.selects RX12 yX12_canMeet yX12_canMeet ∈ lw_tbl := am_tp6 (i := 3) (q := (yX12_canMeet, 60)) rfl
theorem am_k1415 : Cond.code yX12_worthOf cX12_worthOf 4 (some (.int)) ∈ lw_tbl := am_tb8 (i := 109) rfl
theorem am_k1416 : Cond.instanceMethod yX12_worthOf ∈ lw_tbl := am_tb8 (i := 108) rfl
theorem am_k1417 : Cond.selects RX12 yX12_worthOf yX12_worthOf ∈ lw_tbl := am_tp6 (i := 2) (q := (yX12_worthOf, 60)) rfl
theorem am_k1418 : Cond.code yX12_bitsOf cX12_bitsOf 4 (some (.int)) ∈ lw_tbl := am_tb8 (i := 97) rfl
theorem am_k1419 : Cond.instanceMethod yX12_bitsOf ∈ lw_tbl := am_tb8 (i := 96) rfl
theorem am_k1420 : Cond.selects RX12 yX12_bitsOf yX12_bitsOf ∈ lw_tbl := am_tp5 (i := 15) (q := (yX12_bitsOf, 60)) rfl
theorem am_k1421 : Cond.code yX12_bestHeap cX12_bestHeap 10 (some (.int)) ∈ lw_tbl := am_tb8 (i := 105) rfl
theorem am_k1422 : Cond.instanceMethod yX12_bestHeap ∈ lw_tbl := am_tb8 (i := 104) rfl
theorem am_k1423 : Cond.selects RX12 yX12_bestHeap yX12_bestHeap ∈ lw_tbl := am_tp6 (i := 1) (q := (yX12_bestHeap, 60)) rfl
theorem am_k1424 : Cond.code yX12_bestOf cX12_bestOf 2 (some (.int)) ∈ lw_tbl := am_tb8 (i := 93) rfl
theorem am_k1425 : Cond.instanceMethod yX12_bestOf ∈ lw_tbl := am_tb8 (i := 92) rfl
theorem am_k1426 : Cond.selects RX12 yX12_bestOf yX12_bestOf ∈ lw_tbl := am_tp5 (i := 14) (q := (yX12_bestOf, 60)) rfl
theorem am_k1427 : Cond.code yX12_metBits cX12_metBits 3 (some (.int)) ∈ lw_tbl := am_tb8 (i := 85) rfl
theorem am_k1428 : Cond.instanceMethod yX12_metBits ∈ lw_tbl := am_tb8 (i := 84) rfl
theorem am_k1429 : Cond.selects RX12 yX12_metBits yX12_metBits ∈ lw_tbl := am_tp5 (i := 12) (q := (yX12_metBits, 60)) rfl
theorem am_k1430 : Cond.code yX12_met cX12_met 2 (some (.int)) ∈ lw_tbl := am_tb8 (i := 81) rfl
theorem am_k1431 : Cond.instanceMethod yX12_met ∈ lw_tbl := am_tb8 (i := 79) rfl
theorem am_k1432 : Cond.selects RX12 yX12_met yX12_met ∈ lw_tbl := am_tb8 (i := 80) rfl
theorem am_k1433 : Cond.code yX12_shorts cX12_shorts 6 (some (.int)) ∈ lw_tbl := am_tb8 (i := 122) rfl
theorem am_k1434 : Cond.instanceMethod yX12_shorts ∈ lw_tbl := am_tb8 (i := 120) rfl
theorem am_k1435 : Cond.selects RX12 yX12_shorts yX12_shorts ∈ lw_tbl := am_tb8 (i := 121) rfl
theorem am_k1436 : Cond.code yX12_price cX12_price 5 (some (.int)) ∈ lw_tbl := am_tb8 (i := 126) rfl
theorem am_k1437 : Cond.instanceMethod yX12_price ∈ lw_tbl := am_tb8 (i := 124) rfl
theorem am_k1438 : Cond.selects RX12 yX12_price yX12_price ∈ lw_tbl := am_tb8 (i := 125) rfl
theorem am_k1439 : Cond.code yX12_longer cX12_longer 6 (some (.int)) ∈ lw_tbl := am_tb8 (i := 135) rfl
theorem am_k1440 : Cond.instanceMethod yX12_longer ∈ lw_tbl := am_tb8 (i := 133) rfl
theorem am_k1441 : Cond.selects RX12 yX12_longer yX12_longer ∈ lw_tbl := am_tb8 (i := 134) rfl
theorem am_k1442 : Cond.code yX12_other cX12_other 3 (some (.int)) ∈ lw_tbl := am_tb8 (i := 139) rfl
theorem am_k1443 : Cond.instanceMethod yX12_other ∈ lw_tbl := am_tb8 (i := 137) rfl
theorem am_k1444 : Cond.selects RX12 yX12_other yX12_other ∈ lw_tbl := am_tb8 (i := 138) rfl
theorem am_k1445 : Cond.code yX12_laysRow cX12_laysRow 5 none ∈ lw_tbl := am_tb8 (i := 155) rfl
theorem am_k1446 : Cond.instanceMethod yX12_laysRow ∈ lw_tbl := am_tb8 (i := 154) rfl
theorem am_k1447 : Cond.selects RX12 yX12_laysRow yX12_laysRow ∈ lw_tbl := am_tp6 (i := 8) (q := (yX12_laysRow, 60)) rfl
theorem am_k1448 : Cond.code yX12_whoAt cX12_whoAt 2 (some (.int)) ∈ lw_tbl := am_tb8 (i := 163) rfl
theorem am_k1449 : Cond.instanceMethod yX12_whoAt ∈ lw_tbl := am_tb8 (i := 162) rfl
theorem am_k1450 : Cond.selects RX12 yX12_whoAt yX12_whoAt ∈ lw_tbl := am_tp6 (i := 10) (q := (yX12_whoAt, 60)) rfl
theorem am_k1451 : Cond.code yX12_wayOf cX12_wayOf 11 (some (.int)) ∈ lw_tbl := am_tb8 (i := 159) rfl
theorem am_k1452 : Cond.instanceMethod yX12_wayOf ∈ lw_tbl := am_tb8 (i := 158) rfl
theorem am_k1453 : Cond.selects RX12 yX12_wayOf yX12_wayOf ∈ lw_tbl := am_tp6 (i := 9) (q := (yX12_wayOf, 60)) rfl
theorem am_k1454 : Cond.code yX12_isFree cX12_isFree 4 (some (.boolean)) ∈ lw_tbl := am_tb8 (i := 167) rfl
theorem am_k1455 : Cond.instanceMethod yX12_isFree ∈ lw_tbl := am_tb8 (i := 166) rfl
theorem am_k1456 : Cond.selects RX12 yX12_isFree yX12_isFree ∈ lw_tbl := am_tp6 (i := 11) (q := (yX12_isFree, 60)) rfl
theorem am_k1457 : Cond.code yX12_givesFrom cX12_givesFrom 6 none ∈ lw_tbl := am_tb8 (i := 151) rfl
theorem am_k1458 : Cond.instanceMethod yX12_givesFrom ∈ lw_tbl := am_tb8 (i := 150) rfl
theorem am_k1459 : Cond.selects RX12 yX12_givesFrom yX12_givesFrom ∈ lw_tbl := am_tp6 (i := 7) (q := (yX12_givesFrom, 60)) rfl
theorem am_k1460 : Cond.code yX12_gives cX12_gives 5 none ∈ lw_tbl := am_tb8 (i := 147) rfl
theorem am_k1461 : Cond.instanceMethod yX12_gives ∈ lw_tbl := am_tb8 (i := 146) rfl
theorem am_k1462 : Cond.selects RX12 yX12_gives yX12_gives ∈ lw_tbl := am_tp6 (i := 6) (q := (yX12_gives, 60)) rfl
theorem am_k1463 : Cond.code yX12_givesAll cX12_givesAll 2 none ∈ lw_tbl := am_tb8 (i := 184) rfl
theorem am_k1464 : Cond.instanceMethod yX12_givesAll ∈ lw_tbl := am_tb8 (i := 183) rfl
theorem am_k1465 : Cond.selects RX12 yX12_givesAll yX12_givesAll ∈ lw_tbl := am_tp6 (i := 13) (q := (yX12_givesAll, 60)) rfl
theorem am_k1466 : Cond.code yX12_given cX12_given 2 (some (.int)) ∈ lw_tbl := am_tb8 (i := 143) rfl
theorem am_k1467 : Cond.instanceMethod yX12_given ∈ lw_tbl := am_tb8 (i := 141) rfl
theorem am_k1468 : Cond.selects RX12 yX12_given yX12_given ∈ lw_tbl := am_tb8 (i := 142) rfl
theorem am_k1469 : Cond.code yX12_carry cX12_carry 3 (some (.int)) ∈ lw_tbl := am_tb8 (i := 171) rfl
theorem am_k1470 : Cond.instanceMethod yX12_carry ∈ lw_tbl := am_tb8 (i := 169) rfl
theorem am_k1471 : Cond.selects RX12 yX12_carry yX12_carry ∈ lw_tbl := am_tb8 (i := 170) rfl
theorem am_k1472 : Cond.code yX12_moves cX12_moves 6 none ∈ lw_tbl := am_tb8 (i := 188) rfl
theorem am_k1473 : Cond.instanceMethod yX12_moves ∈ lw_tbl := am_tb8 (i := 187) rfl
theorem am_k1474 : Cond.selects RX12 yX12_moves yX12_moves ∈ lw_tbl := am_tp6 (i := 14) (q := (yX12_moves, 60)) rfl
theorem am_k1475 : Cond.code yX12_laysMoves cX12_laysMoves 7 none ∈ lw_tbl := am_tb8 (i := 180) rfl
theorem am_k1476 : Cond.instanceMethod yX12_laysMoves ∈ lw_tbl := am_tb8 (i := 179) rfl
theorem am_k1477 : Cond.selects RX12 yX12_laysMoves yX12_laysMoves ∈ lw_tbl := am_tp6 (i := 12) (q := (yX12_laysMoves, 60)) rfl
theorem am_k1478 : Cond.code yX12_moves_ cX12_moves_ 9 (some (.int)) ∈ lw_tbl := am_tb8 (i := 176) rfl
theorem am_k1479 : Cond.instanceMethod yX12_moves_ ∈ lw_tbl := am_tb8 (i := 174) rfl
theorem am_k1480 : Cond.selects RX12 yX12_moves_ yX12_moves_ ∈ lw_tbl := am_tb8 (i := 175) rfl
theorem am_k1481 : Cond.code yX12_spread cX12_spread 6 (some (.int)) ∈ lw_tbl := am_tb8 (i := 192) rfl
theorem am_k1482 : Cond.instanceMethod yX12_spread ∈ lw_tbl := am_tb8 (i := 190) rfl
theorem am_k1483 : Cond.selects RX12 yX12_spread yX12_spread ∈ lw_tbl := am_tb8 (i := 191) rfl
theorem am_k1484 : Cond.code yX12_hurts cX12_hurts 9 none ∈ lw_tbl := am_tb8 (i := 201) rfl
theorem am_k1485 : Cond.instanceMethod yX12_hurts ∈ lw_tbl := am_tb8 (i := 200) rfl
theorem am_k1486 : Cond.selects RX12 yX12_hurts yX12_hurts ∈ lw_tbl := am_tp6 (i := 15) (q := (yX12_hurts, 60)) rfl
theorem am_k1487 : Cond.code yX12_late cX12_late 4 (some (.int)) ∈ lw_tbl := am_tb8 (i := 197) rfl
theorem am_k1488 : Cond.instanceMethod yX12_late ∈ lw_tbl := am_tb8 (i := 195) rfl
theorem am_k1489 : Cond.selects RX12 yX12_late yX12_late ∈ lw_tbl := am_tb8 (i := 196) rfl
theorem am_k1490 : Cond.code yX12_bears cX12_bears 4 (some (.int)) ∈ lw_tbl := am_tb8 (i := 205) rfl
theorem am_k1491 : Cond.instanceMethod yX12_bears ∈ lw_tbl := am_tb8 (i := 203) rfl
theorem am_k1492 : Cond.selects RX12 yX12_bears yX12_bears ∈ lw_tbl := am_tb8 (i := 204) rfl
theorem am_k1493 : Cond.code yX12_dies cX12_dies 10 (some (.int)) ∈ lw_tbl := am_tb8 (i := 209) rfl
theorem am_k1494 : Cond.instanceMethod yX12_dies ∈ lw_tbl := am_tb8 (i := 207) rfl
theorem am_k1495 : Cond.selects RX12 yX12_dies yX12_dies ∈ lw_tbl := am_tb8 (i := 208) rfl
theorem am_k1496 : Cond.code yX12_entry cX12_entry 3 (some (.int)) ∈ lw_tbl := am_tb8 (i := 216) rfl
theorem am_k1497 : Cond.instanceMethod yX12_entry ∈ lw_tbl := am_tb8 (i := 214) rfl
theorem am_k1498 : Cond.selects RX12 yX12_entry yX12_entry ∈ lw_tbl := am_tb8 (i := 215) rfl
theorem am_k1499 : Cond.code yX12_undo cX12_undo 1 (some (.int)) ∈ lw_tbl := am_tb8 (i := 220) rfl
theorem am_k1500 : Cond.instanceMethod yX12_undo ∈ lw_tbl := am_tb8 (i := 218) rfl
theorem am_k1501 : Cond.selects RX12 yX12_undo yX12_undo ∈ lw_tbl := am_tb8 (i := 219) rfl
theorem am_k1502 : Cond.code yX12_areTrue cX12_areTrue 7 (some (.boolean)) ∈ lw_tbl := am_tb8 (i := 233) rfl
theorem am_k1503 : Cond.instanceMethod yX12_areTrue ∈ lw_tbl := am_tb8 (i := 232) rfl
theorem am_k1504 : Cond.selects RX12 yX12_areTrue yX12_areTrue ∈ lw_tbl := am_tp7 (i := 1) (q := (yX12_areTrue, 60)) rfl
theorem am_k1505 : Cond.code yX12_trueBits cX12_trueBits 4 (some (.int)) ∈ lw_tbl := am_tb8 (i := 229) rfl
theorem am_k1506 : Cond.instanceMethod yX12_trueBits ∈ lw_tbl := am_tb8 (i := 228) rfl
theorem am_k1507 : Cond.selects RX12 yX12_trueBits yX12_trueBits ∈ lw_tbl := am_tp7 (i := 0) (q := (yX12_trueBits, 60)) rfl
theorem am_k1508 : Cond.code yX12_earth cX12_earth 7 (some (.int)) ∈ lw_tbl := am_tb8 (i := 224) rfl
theorem am_k1509 : Cond.instanceMethod yX12_earth ∈ lw_tbl := am_tb8 (i := 222) rfl
theorem am_k1510 : Cond.selects RX12 yX12_earth yX12_earth ∈ lw_tbl := am_tb8 (i := 223) rfl
theorem am_k1511 : Cond.code yX12_lot cX12_lot 2 (some (.int)) ∈ lw_tbl := am_tb9 (i := 4) rfl
theorem am_k1512 : Cond.instanceMethod yX12_lot ∈ lw_tbl := am_tb9 (i := 3) rfl
theorem am_k1513 : Cond.selects RX12 yX12_lot yX12_lot ∈ lw_tbl := am_tp7 (i := 2) (q := (yX12_lot, 60)) rfl
theorem am_k1514 : Cond.code yX12_years cX12_years 9 (some (.int)) ∈ lw_tbl := am_tb8 (i := 237) rfl
theorem am_k1515 : Cond.instanceMethod yX12_years ∈ lw_tbl := am_tb8 (i := 235) rfl
theorem am_k1516 : Cond.selects RX12 yX12_years yX12_years ∈ lw_tbl := am_tb8 (i := 236) rfl
theorem am_k1517 : Cond.code yX12_move cX12_move 5 none ∈ lw_tbl := am_tb9 (i := 20) rfl
theorem am_k1518 : Cond.instanceMethod yX12_move ∈ lw_tbl := am_tb9 (i := 19) rfl
theorem am_k1519 : Cond.selects RX12 yX12_move yX12_move ∈ lw_tbl := am_tp7 (i := 4) (q := (yX12_move, 60)) rfl
theorem am_k1520 : Cond.code yX12_moveAll cX12_moveAll 3 none ∈ lw_tbl := am_tb9 (i := 16) rfl
theorem am_k1521 : Cond.instanceMethod yX12_moveAll ∈ lw_tbl := am_tb9 (i := 15) rfl
theorem am_k1522 : Cond.selects RX12 yX12_moveAll yX12_moveAll ∈ lw_tbl := am_tp7 (i := 3) (q := (yX12_moveAll, 60)) rfl
theorem am_k1523 : Cond.code yX12_image cX12_image 2 (some (.boolean)) ∈ lw_tbl := am_tb9 (i := 12) rfl
theorem am_k1524 : Cond.instanceMethod yX12_image ∈ lw_tbl := am_tb9 (i := 10) rfl
theorem am_k1525 : Cond.selects RX12 yX12_image yX12_image ∈ lw_tbl := am_tb9 (i := 11) rfl
theorem am_k1526 : Cond.code yX12_on cX12_on 2 (some (.boolean)) ∈ lw_tbl := am_tb9 (i := 24) rfl
theorem am_k1527 : Cond.instanceMethod yX12_on ∈ lw_tbl := am_tb9 (i := 22) rfl
theorem am_k1528 : Cond.selects RX12 yX12_on yX12_on ∈ lw_tbl := am_tb9 (i := 23) rfl
theorem am_k1529 : Cond.code yX12_count cX12_count 2 (some (.int)) ∈ lw_tbl := am_tb9 (i := 28) rfl
theorem am_k1530 : Cond.instanceMethod yX12_count ∈ lw_tbl := am_tb9 (i := 26) rfl
theorem am_k1531 : Cond.selects RX12 yX12_count yX12_count ∈ lw_tbl := am_tb9 (i := 27) rfl
theorem am_k1532 : Cond.code yJ6_bitCount_0f7a4 cJ6_bitCount_0f7a4 1 (some (.int)) ∈ lw_tbl := am_tb3 (i := 170) rfl
theorem am_k1533 : Cond.static yJ6_bitCount_0f7a4 ∈ lw_tbl := am_tb3 (i := 169) rfl
theorem am_k1534 : Cond.code yJ0_length_8abf5 cJ0_length_8abf5 1 (some (.int)) ∈ lw_tbl := am_tb3 (i := 14) rfl
theorem am_k1535 : Cond.instanceMethod yJ0_length_8abf5 ∈ lw_tbl := am_tb3 (i := 12) rfl
theorem am_k1536 : Cond.selects RJ0 yJ0_length_8abf5 yJ0_length_8abf5 ∈ lw_tbl := am_tb3 (i := 13) rfl
theorem am_k1537 : Cond.code yJ0_charAt_5068e cJ0_charAt_5068e 2 (some (.char)) ∈ lw_tbl := am_tb3 (i := 24) rfl
theorem am_k1538 : Cond.instanceMethod yJ0_charAt_5068e ∈ lw_tbl := am_tb3 (i := 22) rfl
theorem am_k1539 : Cond.selects RJ0 yJ0_charAt_5068e yJ0_charAt_5068e ∈ lw_tbl := am_tb3 (i := 23) rfl
theorem am_k1540 : Cond.code yJ0_coder_7d493 cJ0_coder_7d493 1 (some (.byte)) ∈ lw_tbl := am_tb3 (i := 18) rfl
theorem am_k1541 : Cond.instanceMethod yJ0_coder_7d493 ∈ lw_tbl := am_tb3 (i := 16) rfl
theorem am_k1542 : Cond.selects RJ0 yJ0_coder_7d493 yJ0_coder_7d493 ∈ lw_tbl := am_tb3 (i := 17) rfl
theorem am_k1543 : Cond.code yJ0_isLatin1_aae02 cJ0_isLatin1_aae02 1 (some (.boolean)) ∈ lw_tbl := am_tb3 (i := 28) rfl
theorem am_k1544 : Cond.instanceMethod yJ0_isLatin1_aae02 ∈ lw_tbl := am_tb3 (i := 26) rfl
theorem am_k1545 : Cond.selects RJ0 yJ0_isLatin1_aae02 yJ0_isLatin1_aae02 ∈ lw_tbl := am_tb3 (i := 27) rfl
theorem am_k1546 : Cond.code yJ0_checkIndex_df160 cJ0_checkIndex_df160 2 none ∈ lw_tbl := am_tb3 (i := 34) rfl
theorem am_k1547 : Cond.static yJ0_checkIndex_df160 ∈ lw_tbl := am_tb3 (i := 33) rfl
theorem am_k1548 : Cond.code yJ1_charAt_3b067 cJ1_charAt_3b067 2 (some (.char)) ∈ lw_tbl := am_tb3 (i := 31) rfl
theorem am_k1549 : Cond.static yJ1_charAt_3b067 ∈ lw_tbl := am_tb3 (i := 30) rfl
theorem am_k1550 : Cond.code yJ7_fill_d0a16 cJ7_fill_d0a16 5 none ∈ lw_tbl := am_tb5 (i := 34) rfl
theorem am_k1551 : Cond.static yJ7_fill_d0a16 ∈ lw_tbl := am_tb5 (i := 33) rfl
theorem am_k1552 : Cond.code yJ7_fill_53178 cJ7_fill_53178 4 none ∈ lw_tbl := am_tb4 (i := 205) rfl
theorem am_k1553 : Cond.static yJ7_fill_53178 ∈ lw_tbl := am_tb4 (i := 204) rfl
theorem am_k1554 : Cond.code yJ3_checkIndex_8e157 cJ3_checkIndex_8e157 3 (some (.int)) ∈ lw_tbl := am_tb3 (i := 39) rfl
theorem am_k1555 : Cond.static yJ3_checkIndex_8e157 ∈ lw_tbl := am_tb3 (i := 38) rfl
theorem am_k1556 : Cond.initialized RJ0 ∈ lw_tbl := am_tb1 (i := 15) rfl
theorem am_k1557 : Cond.initialized RJ1 ∈ lw_tbl := am_tb1 (i := 16) rfl
theorem am_k1558 : Cond.initialized RJ3 ∈ lw_tbl := am_tb1 (i := 17) rfl
theorem am_k1559 : Cond.initialized RJ6 ∈ lw_tbl := am_tb1 (i := 19) rfl
theorem am_k1560 : Cond.initialized RJ7 ∈ lw_tbl := am_tb1 (i := 20) rfl
theorem am_k1561 : Cond.initialized RX0 ∈ lw_tbl := am_tb1 (i := 11) rfl
theorem am_k1562 : Cond.initialized RX1 ∈ lw_tbl := am_tb1 (i := 5) rfl
theorem am_k1563 : Cond.initialized RX10 ∈ lw_tbl := am_tb1 (i := 7) rfl
theorem am_k1564 : Cond.initialized RX11 ∈ lw_tbl := am_tb1 (i := 1) rfl
theorem am_k1565 : Cond.initialized RX12 ∈ lw_tbl := am_tb1 (i := 13) rfl
theorem am_k1566 : Cond.initialized RX2 ∈ lw_tbl := am_tb1 (i := 8) rfl
theorem am_k1567 : Cond.initialized RX3 ∈ lw_tbl := am_tb1 (i := 4) rfl
theorem am_k1568 : Cond.initialized RX4 ∈ lw_tbl := am_tb1 (i := 12) rfl
theorem am_k1569 : Cond.initialized RX5 ∈ lw_tbl := am_tb1 (i := 10) rfl
theorem am_k1570 : Cond.initialized RX6 ∈ lw_tbl := am_tb1 (i := 6) rfl
theorem am_k1571 : Cond.initialized RX7 ∈ lw_tbl := am_tb1 (i := 3) rfl
theorem am_k1572 : Cond.initialized RX8 ∈ lw_tbl := am_tb1 (i := 2) rfl
theorem am_k1573 : Cond.initialized RX9 ∈ lw_tbl := am_tb1 (i := 9) rfl
theorem am_k1574 : Cond.laysFinal RX0 "OnlyLent$Book" "givers" "[I" ∈ lw_tbl := am_tb2 (i := 39) rfl
theorem am_k1575 : Cond.laysFinal RX0 "OnlyLent$Book" "takers" "[I" ∈ lw_tbl := am_tb2 (i := 41) rfl
theorem am_k1576 : Cond.laysFinal RX0 "OnlyLent$Book" "row" "[I" ∈ lw_tbl := am_tb2 (i := 43) rfl
theorem am_k1577 : Cond.lays RX0 "OnlyLent$Book" "size" "I" ∈ lw_tbl := am_tb2 (i := 45) rfl
theorem am_k1578 : Cond.lays RX0 "OnlyLent$Book" "searched" "Z" ∈ lw_tbl := am_tb2 (i := 47) rfl
theorem am_k1579 : Cond.lays RX0 "OnlyLent$Book" "first" "I" ∈ lw_tbl := am_tb2 (i := 49) rfl
theorem am_k1580 : Cond.lays RX0 "OnlyLent$Book" "trueBits" "I" ∈ lw_tbl := am_tb2 (i := 51) rfl
theorem am_k1581 : Cond.lays RX0 "OnlyLent$Book" "rivals" "I" ∈ lw_tbl := am_tb2 (i := 53) rfl
theorem am_k1582 : Cond.laysFinal RX1 "OnlyLent$Choice" "wants" "[I" ∈ lw_tbl := am_tb1 (i := 122) rfl
theorem am_k1583 : Cond.laysFinal RX1 "OnlyLent$Choice" "froms" "[I" ∈ lw_tbl := am_tb1 (i := 124) rfl
theorem am_k1584 : Cond.laysFinal RX1 "OnlyLent$Choice" "tills" "[I" ∈ lw_tbl := am_tb1 (i := 126) rfl
theorem am_k1585 : Cond.laysFinal RX1 "OnlyLent$Choice" "values" "[I" ∈ lw_tbl := am_tb1 (i := 128) rfl
theorem am_k1586 : Cond.laysFinal RX1 "OnlyLent$Choice" "rests" "[I" ∈ lw_tbl := am_tb1 (i := 130) rfl
theorem am_k1587 : Cond.laysFinal RX1 "OnlyLent$Choice" "onFirst" "[I" ∈ lw_tbl := am_tb1 (i := 132) rfl
theorem am_k1588 : Cond.laysFinal RX1 "OnlyLent$Choice" "onNext" "[I" ∈ lw_tbl := am_tb1 (i := 134) rfl
theorem am_k1589 : Cond.lays RX1 "OnlyLent$Choice" "size" "I" ∈ lw_tbl := am_tb1 (i := 136) rfl
theorem am_k1590 : Cond.lays RX1 "OnlyLent$Choice" "room" "I" ∈ lw_tbl := am_tb1 (i := 138) rfl
theorem am_k1591 : Cond.lays RX1 "OnlyLent$Choice" "moreOn" "I" ∈ lw_tbl := am_tb1 (i := 140) rfl
theorem am_k1592 : Cond.lays RX1 "OnlyLent$Choice" "must" "I" ∈ lw_tbl := am_tb1 (i := 142) rfl
theorem am_k1593 : Cond.lays RX1 "OnlyLent$Choice" "later" "I" ∈ lw_tbl := am_tb1 (i := 144) rfl
theorem am_k1594 : Cond.lays RX1 "OnlyLent$Choice" "best" "I" ∈ lw_tbl := am_tb1 (i := 146) rfl
theorem am_k1595 : Cond.lays RX1 "OnlyLent$Choice" "bestBits" "I" ∈ lw_tbl := am_tb1 (i := 148) rfl
theorem am_k1596 : Cond.laysFinal RX2 "OnlyLent$Giving" "ways" "LOnlyLent$Ways;" ∈ lw_tbl := am_tb1 (i := 181) rfl
theorem am_k1597 : Cond.laysFinal RX2 "OnlyLent$Giving" "wants" "[I" ∈ lw_tbl := am_tb1 (i := 183) rfl
theorem am_k1598 : Cond.laysFinal RX2 "OnlyLent$Giving" "bests" "[J" ∈ lw_tbl := am_tb1 (i := 185) rfl
theorem am_k1599 : Cond.laysFinal RX2 "OnlyLent$Giving" "costs" "[J" ∈ lw_tbl := am_tb1 (i := 187) rfl
theorem am_k1600 : Cond.lays RX2 "OnlyLent$Giving" "size" "I" ∈ lw_tbl := am_tb1 (i := 189) rfl
theorem am_k1601 : Cond.laysFinal RX3 "OnlyLent$Holdings" "depths" "[I" ∈ lw_tbl := am_tb1 (i := 83) rfl
theorem am_k1602 : Cond.laysFinal RX3 "OnlyLent$Holdings" "holders" "[I" ∈ lw_tbl := am_tb1 (i := 85) rfl
theorem am_k1603 : Cond.laysFinal RX3 "OnlyLent$Holdings" "dues" "[I" ∈ lw_tbl := am_tb1 (i := 87) rfl
theorem am_k1604 : Cond.lays RX3 "OnlyLent$Holdings" "day" "I" ∈ lw_tbl := am_tb1 (i := 89) rfl
theorem am_k1605 : Cond.lays RX3 "OnlyLent$Holdings" "carried" "I" ∈ lw_tbl := am_tb1 (i := 91) rfl
theorem am_k1606 : Cond.lays RX3 "OnlyLent$Holdings" "lost" "I" ∈ lw_tbl := am_tb1 (i := 93) rfl
theorem am_k1607 : Cond.lays RX3 "OnlyLent$Holdings" "lawful" "I" ∈ lw_tbl := am_tb1 (i := 95) rfl
theorem am_k1608 : Cond.lays RX3 "OnlyLent$Holdings" "kept" "Z" ∈ lw_tbl := am_tb1 (i := 97) rfl
theorem am_k1609 : Cond.laysFinal RX4 "OnlyLent$Land" "personNames" "[J" ∈ lw_tbl := am_tb2 (i := 81) rfl
theorem am_k1610 : Cond.laysFinal RX4 "OnlyLent$Land" "places" "[I" ∈ lw_tbl := am_tb2 (i := 83) rfl
theorem am_k1611 : Cond.laysFinal RX4 "OnlyLent$Land" "heirs" "[I" ∈ lw_tbl := am_tb2 (i := 85) rfl
theorem am_k1612 : Cond.laysFinal RX4 "OnlyLent$Land" "sortNames" "[J" ∈ lw_tbl := am_tb2 (i := 87) rfl
theorem am_k1613 : Cond.laysFinal RX4 "OnlyLent$Land" "worths" "[I" ∈ lw_tbl := am_tb2 (i := 89) rfl
theorem am_k1614 : Cond.laysFinal RX4 "OnlyLent$Land" "thingSorts" "[I" ∈ lw_tbl := am_tb2 (i := 91) rfl
theorem am_k1615 : Cond.laysFinal RX4 "OnlyLent$Land" "owners" "[I" ∈ lw_tbl := am_tb2 (i := 93) rfl
theorem am_k1616 : Cond.laysFinal RX4 "OnlyLent$Land" "wanters" "[I" ∈ lw_tbl := am_tb2 (i := 95) rfl
theorem am_k1617 : Cond.laysFinal RX4 "OnlyLent$Land" "wantSorts" "[I" ∈ lw_tbl := am_tb2 (i := 97) rfl
theorem am_k1618 : Cond.laysFinal RX4 "OnlyLent$Land" "froms" "[I" ∈ lw_tbl := am_tb2 (i := 99) rfl
theorem am_k1619 : Cond.laysFinal RX4 "OnlyLent$Land" "tills" "[I" ∈ lw_tbl := am_tb2 (i := 101) rfl
theorem am_k1620 : Cond.laysFinal RX4 "OnlyLent$Land" "weights" "[I" ∈ lw_tbl := am_tb2 (i := 103) rfl
theorem am_k1621 : Cond.laysFinal RX4 "OnlyLent$Land" "byFrom" "[I" ∈ lw_tbl := am_tb2 (i := 105) rfl
theorem am_k1622 : Cond.lays RX4 "OnlyLent$Land" "people" "I" ∈ lw_tbl := am_tb2 (i := 107) rfl
theorem am_k1623 : Cond.lays RX4 "OnlyLent$Land" "sorts" "I" ∈ lw_tbl := am_tb2 (i := 109) rfl
theorem am_k1624 : Cond.lays RX4 "OnlyLent$Land" "things" "I" ∈ lw_tbl := am_tb2 (i := 111) rfl
theorem am_k1625 : Cond.lays RX4 "OnlyLent$Land" "wants" "I" ∈ lw_tbl := am_tb2 (i := 113) rfl
theorem am_k1626 : Cond.lays RX4 "OnlyLent$Land" "hands" "I" ∈ lw_tbl := am_tb2 (i := 115) rfl
theorem am_k1627 : Cond.lays RX4 "OnlyLent$Land" "road" "I" ∈ lw_tbl := am_tb2 (i := 117) rfl
theorem am_k1628 : Cond.lays RX5 "OnlyLent$Lateness" "hurt" "I" ∈ lw_tbl := am_tb2 (i := 20) rfl
theorem am_k1629 : Cond.lays RX5 "OnlyLent$Lateness" "weight" "I" ∈ lw_tbl := am_tb2 (i := 22) rfl
theorem am_k1630 : Cond.laysFinal RX6 "OnlyLent$Plan" "choice" "LOnlyLent$Choice;" ∈ lw_tbl := am_tb1 (i := 233) rfl
theorem am_k1631 : Cond.laysFinal RX6 "OnlyLent$Plan" "ways" "LOnlyLent$Ways;" ∈ lw_tbl := am_tb1 (i := 235) rfl
theorem am_k1632 : Cond.laysFinal RX6 "OnlyLent$Plan" "giving" "LOnlyLent$Giving;" ∈ lw_tbl := am_tb1 (i := 237) rfl
theorem am_k1633 : Cond.laysFinal RX6 "OnlyLent$Plan" "trips" "LOnlyLent$Trips;" ∈ lw_tbl := am_tb1 (i := 239) rfl
theorem am_k1634 : Cond.laysFinal RX6 "OnlyLent$Plan" "things" "[I" ∈ lw_tbl := am_tb2 (i := 1) rfl
theorem am_k1635 : Cond.laysFinal RX6 "OnlyLent$Plan" "line" "[I" ∈ lw_tbl := am_tb2 (i := 3) rfl
theorem am_k1636 : Cond.lays RX6 "OnlyLent$Plan" "made" "Z" ∈ lw_tbl := am_tb2 (i := 5) rfl
theorem am_k1637 : Cond.lays RX6 "OnlyLent$Plan" "lost" "I" ∈ lw_tbl := am_tb2 (i := 7) rfl
theorem am_k1638 : Cond.lays RX6 "OnlyLent$Plan" "metBits" "I" ∈ lw_tbl := am_tb2 (i := 9) rfl
theorem am_k1639 : Cond.laysFinal RX7 "OnlyLent$Reader" "text" "LOnlyLent$Text;" ∈ lw_tbl := am_tb1 (i := 56) rfl
theorem am_k1640 : Cond.lays RX7 "OnlyLent$Reader" "place" "I" ∈ lw_tbl := am_tb1 (i := 58) rfl
theorem am_k1641 : Cond.lays RX7 "OnlyLent$Reader" "start" "I" ∈ lw_tbl := am_tb1 (i := 60) rfl
theorem am_k1642 : Cond.lays RX7 "OnlyLent$Reader" "kind" "I" ∈ lw_tbl := am_tb1 (i := 62) rfl
theorem am_k1643 : Cond.lays RX7 "OnlyLent$Reader" "number" "I" ∈ lw_tbl := am_tb1 (i := 64) rfl
theorem am_k1644 : Cond.lays RX7 "OnlyLent$Reader" "name" "J" ∈ lw_tbl := am_tb1 (i := 66) rfl
theorem am_k1645 : Cond.laysFinal RX8 "OnlyLent$Text" "bytes" "[B" ∈ lw_tbl := am_tb1 (i := 38) rfl
theorem am_k1646 : Cond.lays RX8 "OnlyLent$Text" "size" "I" ∈ lw_tbl := am_tb1 (i := 40) rfl
theorem am_k1647 : Cond.laysFinal RX9 "OnlyLent$Trips" "sorts" "[I" ∈ lw_tbl := am_tb1 (i := 207) rfl
theorem am_k1648 : Cond.laysFinal RX9 "OnlyLent$Trips" "days" "[I" ∈ lw_tbl := am_tb1 (i := 209) rfl
theorem am_k1649 : Cond.laysFinal RX9 "OnlyLent$Trips" "starts" "[I" ∈ lw_tbl := am_tb1 (i := 211) rfl
theorem am_k1650 : Cond.laysFinal RX9 "OnlyLent$Trips" "goals" "[I" ∈ lw_tbl := am_tb1 (i := 213) rfl
theorem am_k1651 : Cond.laysFinal RX9 "OnlyLent$Trips" "stretches" "[I" ∈ lw_tbl := am_tb1 (i := 215) rfl
theorem am_k1652 : Cond.laysFinal RX9 "OnlyLent$Trips" "fixedOn" "[I" ∈ lw_tbl := am_tb1 (i := 217) rfl
theorem am_k1653 : Cond.laysFinal RX9 "OnlyLent$Trips" "freeFrom" "[I" ∈ lw_tbl := am_tb1 (i := 219) rfl
theorem am_k1654 : Cond.lays RX9 "OnlyLent$Trips" "size" "I" ∈ lw_tbl := am_tb1 (i := 221) rfl
theorem am_k1655 : Cond.laysFinal RX10 "OnlyLent$Ways" "places" "[I" ∈ lw_tbl := am_tb1 (i := 165) rfl
theorem am_k1656 : Cond.laysFinal RX10 "OnlyLent$Ways" "leasts" "[I" ∈ lw_tbl := am_tb1 (i := 167) rfl
theorem am_k1657 : Cond.laysFinal RX11 "OnlyLent" "text" "LOnlyLent$Text;" ∈ lw_tbl := am_tb2 (i := 132) rfl
theorem am_k1658 : Cond.laysFinal RX11 "OnlyLent" "reader" "LOnlyLent$Reader;" ∈ lw_tbl := am_tb2 (i := 134) rfl
theorem am_k1659 : Cond.laysFinal RX11 "OnlyLent" "now" "LOnlyLent$Holdings;" ∈ lw_tbl := am_tb2 (i := 136) rfl
theorem am_k1660 : Cond.laysFinal RX11 "OnlyLent" "images" "[LOnlyLent$Holdings;" ∈ lw_tbl := am_tb2 (i := 138) rfl
theorem am_k1661 : Cond.laysFinal RX11 "OnlyLent" "choice" "LOnlyLent$Choice;" ∈ lw_tbl := am_tb2 (i := 140) rfl
theorem am_k1662 : Cond.laysFinal RX11 "OnlyLent" "plan" "LOnlyLent$Plan;" ∈ lw_tbl := am_tb2 (i := 142) rfl
theorem am_k1663 : Cond.laysFinal RX11 "OnlyLent" "lateness" "LOnlyLent$Lateness;" ∈ lw_tbl := am_tb2 (i := 144) rfl
theorem am_k1664 : Cond.laysFinal RX11 "OnlyLent" "book" "LOnlyLent$Book;" ∈ lw_tbl := am_tb2 (i := 146) rfl
theorem am_k1665 : Cond.laysFinal RX11 "OnlyLent" "refused" "[I" ∈ lw_tbl := am_tb2 (i := 148) rfl
theorem am_k1666 : Cond.lays RX11 "OnlyLent" "told" "LOnlyLent$Land;" ∈ lw_tbl := am_tb2 (i := 150) rfl
theorem am_k1667 : Cond.lays RX11 "OnlyLent" "spare" "LOnlyLent$Land;" ∈ lw_tbl := am_tb2 (i := 152) rfl
theorem am_k1668 : Cond.lays RX11 "OnlyLent" "hasLand" "Z" ∈ lw_tbl := am_tb2 (i := 154) rfl
theorem am_k1669 : Cond.laysFinal RX12 "OnlyLentModel" "refused" "[I" ∈ lw_tbl := am_tb7 (i := 5) rfl
theorem am_k1670 : Cond.laysFinal RX12 "OnlyLentModel" "text" "[B" ∈ lw_tbl := am_tb7 (i := 7) rfl
theorem am_k1671 : Cond.lays RX12 "OnlyLentModel" "textMany" "I" ∈ lw_tbl := am_tb7 (i := 9) rfl
theorem am_k1672 : Cond.lays RX12 "OnlyLentModel" "at" "I" ∈ lw_tbl := am_tb7 (i := 11) rfl
theorem am_k1673 : Cond.lays RX12 "OnlyLentModel" "to" "I" ∈ lw_tbl := am_tb7 (i := 13) rfl
theorem am_k1674 : Cond.lays RX12 "OnlyLentModel" "faultAt" "I" ∈ lw_tbl := am_tb7 (i := 15) rfl
theorem am_k1675 : Cond.lays RX12 "OnlyLentModel" "value" "I" ∈ lw_tbl := am_tb7 (i := 17) rfl
theorem am_k1676 : Cond.laysFinal RX12 "OnlyLentModel" "placeX" "[[I" ∈ lw_tbl := am_tb7 (i := 19) rfl
theorem am_k1677 : Cond.laysFinal RX12 "OnlyLentModel" "heir" "[[I" ∈ lw_tbl := am_tb7 (i := 21) rfl
theorem am_k1678 : Cond.laysFinal RX12 "OnlyLentModel" "worth" "[[I" ∈ lw_tbl := am_tb7 (i := 23) rfl
theorem am_k1679 : Cond.laysFinal RX12 "OnlyLentModel" "thingSort" "[[I" ∈ lw_tbl := am_tb7 (i := 25) rfl
theorem am_k1680 : Cond.laysFinal RX12 "OnlyLentModel" "thingOwner" "[[I" ∈ lw_tbl := am_tb7 (i := 27) rfl
theorem am_k1681 : Cond.laysFinal RX12 "OnlyLentModel" "wantWho" "[[I" ∈ lw_tbl := am_tb7 (i := 29) rfl
theorem am_k1682 : Cond.laysFinal RX12 "OnlyLentModel" "wantSort" "[[I" ∈ lw_tbl := am_tb7 (i := 31) rfl
theorem am_k1683 : Cond.laysFinal RX12 "OnlyLentModel" "wantFrom" "[[I" ∈ lw_tbl := am_tb7 (i := 33) rfl
theorem am_k1684 : Cond.laysFinal RX12 "OnlyLentModel" "wantTo" "[[I" ∈ lw_tbl := am_tb7 (i := 35) rfl
theorem am_k1685 : Cond.laysFinal RX12 "OnlyLentModel" "wantWorth" "[[I" ∈ lw_tbl := am_tb7 (i := 37) rfl
theorem am_k1686 : Cond.laysFinal RX12 "OnlyLentModel" "head" "[[I" ∈ lw_tbl := am_tb7 (i := 39) rfl
theorem am_k1687 : Cond.laysFinal RX12 "OnlyLentModel" "names" "[J" ∈ lw_tbl := am_tb7 (i := 41) rfl
theorem am_k1688 : Cond.lays RX12 "OnlyLentModel" "hasLand" "Z" ∈ lw_tbl := am_tb7 (i := 43) rfl
theorem am_k1689 : Cond.lays RX12 "OnlyLentModel" "hasHands" "Z" ∈ lw_tbl := am_tb7 (i := 45) rfl
theorem am_k1690 : Cond.lays RX12 "OnlyLentModel" "hasRoad" "Z" ∈ lw_tbl := am_tb7 (i := 47) rfl
theorem am_k1691 : Cond.laysFinal RX12 "OnlyLentModel" "words" "[Ljava/lang/String;" ∈ lw_tbl := am_tb7 (i := 49) rfl
theorem am_k1692 : Cond.laysFinal RX12 "OnlyLentModel" "chainWho" "[I" ∈ lw_tbl := am_tb7 (i := 51) rfl
theorem am_k1693 : Cond.laysFinal RX12 "OnlyLentModel" "chainTill" "[I" ∈ lw_tbl := am_tb7 (i := 53) rfl
theorem am_k1694 : Cond.laysFinal RX12 "OnlyLentModel" "chainMany" "[I" ∈ lw_tbl := am_tb7 (i := 55) rfl
theorem am_k1695 : Cond.laysFinal RX12 "OnlyLentModel" "isLost" "[I" ∈ lw_tbl := am_tb7 (i := 57) rfl
theorem am_k1696 : Cond.lays RX12 "OnlyLentModel" "day" "I" ∈ lw_tbl := am_tb7 (i := 59) rfl
theorem am_k1697 : Cond.lays RX12 "OnlyLentModel" "carried" "I" ∈ lw_tbl := am_tb7 (i := 61) rfl
theorem am_k1698 : Cond.lays RX12 "OnlyLentModel" "lawNow" "I" ∈ lw_tbl := am_tb7 (i := 63) rfl
theorem am_k1699 : Cond.lays RX12 "OnlyLentModel" "moreDay" "I" ∈ lw_tbl := am_tb7 (i := 65) rfl
theorem am_k1700 : Cond.lays RX12 "OnlyLentModel" "longWant" "I" ∈ lw_tbl := am_tb7 (i := 67) rfl
theorem am_k1701 : Cond.lays RX12 "OnlyLentModel" "longBy" "I" ∈ lw_tbl := am_tb7 (i := 69) rfl
theorem am_k1702 : Cond.lays RX12 "OnlyLentModel" "without" "I" ∈ lw_tbl := am_tb7 (i := 71) rfl
theorem am_k1703 : Cond.laysFinal RX12 "OnlyLentModel" "givenTo" "[I" ∈ lw_tbl := am_tb7 (i := 73) rfl
theorem am_k1704 : Cond.laysFinal RX12 "OnlyLentModel" "bestTo" "[I" ∈ lw_tbl := am_tb7 (i := 75) rfl
theorem am_k1705 : Cond.laysFinal RX12 "OnlyLentModel" "listed" "[I" ∈ lw_tbl := am_tb7 (i := 77) rfl
theorem am_k1706 : Cond.laysFinal RX12 "OnlyLentModel" "row" "[I" ∈ lw_tbl := am_tb7 (i := 79) rfl
theorem am_k1707 : Cond.lays RX12 "OnlyLentModel" "listedMany" "I" ∈ lw_tbl := am_tb7 (i := 81) rfl
theorem am_k1708 : Cond.lays RX12 "OnlyLentModel" "rowMany" "I" ∈ lw_tbl := am_tb7 (i := 83) rfl
theorem am_k1709 : Cond.lays RX12 "OnlyLentModel" "bestWays" "I" ∈ lw_tbl := am_tb7 (i := 85) rfl
theorem am_k1710 : Cond.lays RX12 "OnlyLentModel" "wayBits" "I" ∈ lw_tbl := am_tb7 (i := 87) rfl
theorem am_k1711 : Cond.laysFinal RX12 "OnlyLentModel" "moveFrom" "[I" ∈ lw_tbl := am_tb7 (i := 89) rfl
theorem am_k1712 : Cond.laysFinal RX12 "OnlyLentModel" "moveTo" "[I" ∈ lw_tbl := am_tb7 (i := 91) rfl
theorem am_k1713 : Cond.laysFinal RX12 "OnlyLentModel" "moveDay" "[I" ∈ lw_tbl := am_tb7 (i := 93) rfl
theorem am_k1714 : Cond.laysFinal RX12 "OnlyLentModel" "moveSort" "[I" ∈ lw_tbl := am_tb7 (i := 95) rfl
theorem am_k1715 : Cond.laysFinal RX12 "OnlyLentModel" "moveIsLast" "[I" ∈ lw_tbl := am_tb7 (i := 97) rfl
theorem am_k1716 : Cond.lays RX12 "OnlyLentModel" "moveMany" "I" ∈ lw_tbl := am_tb7 (i := 99) rfl
theorem am_k1717 : Cond.laysFinal RX12 "OnlyLentModel" "sources" "[I" ∈ lw_tbl := am_tb7 (i := 101) rfl
theorem am_k1718 : Cond.laysFinal RX12 "OnlyLentModel" "goals" "[I" ∈ lw_tbl := am_tb7 (i := 103) rfl
theorem am_k1719 : Cond.lays RX12 "OnlyLentModel" "hurtBits" "I" ∈ lw_tbl := am_tb7 (i := 105) rfl
theorem am_k1720 : Cond.lays RX12 "OnlyLentModel" "hurtWorth" "I" ∈ lw_tbl := am_tb7 (i := 107) rfl
theorem am_k1721 : Cond.laysFinal RX12 "OnlyLentModel" "entryFrom" "[I" ∈ lw_tbl := am_tb7 (i := 109) rfl
theorem am_k1722 : Cond.laysFinal RX12 "OnlyLentModel" "entryTo" "[I" ∈ lw_tbl := am_tb7 (i := 111) rfl
theorem am_k1723 : Cond.laysFinal RX12 "OnlyLentModel" "line" "[I" ∈ lw_tbl := am_tb7 (i := 113) rfl
theorem am_k1724 : Cond.lays RX12 "OnlyLentModel" "entries" "I" ∈ lw_tbl := am_tb7 (i := 115) rfl
theorem am_k1725 : Cond.lays RX12 "OnlyLentModel" "lots" "J" ∈ lw_tbl := am_tb7 (i := 117) rfl
theorem am_k1726 : Cond.laysFinal RX12 "OnlyLentModel" "kept" "[[I" ∈ lw_tbl := am_tb7 (i := 119) rfl
theorem am_k1727 : Cond.laysFinal RX12 "OnlyLentModel" "hasImage" "[Z" ∈ lw_tbl := am_tb7 (i := 121) rfl
theorem am_k1728 : Cond.lays RX12 "OnlyLentModel" "cursor" "I" ∈ lw_tbl := am_tb7 (i := 123) rfl
theorem am_k1729 : Cond.instantiable RX0 8 ∈ lw_tbl := am_tb2 (i := 26) rfl
theorem am_k1730 : Cond.instantiable RX1 14 ∈ lw_tbl := am_tb1 (i := 103) rfl
theorem am_k1731 : Cond.instantiable RX2 5 ∈ lw_tbl := am_tb1 (i := 171) rfl
theorem am_k1732 : Cond.instantiable RX3 8 ∈ lw_tbl := am_tb1 (i := 70) rfl
theorem am_k1733 : Cond.instantiable RX4 19 ∈ lw_tbl := am_tb2 (i := 57) rfl
theorem am_k1734 : Cond.instantiable RX5 2 ∈ lw_tbl := am_tb2 (i := 13) rfl
theorem am_k1735 : Cond.instantiable RX6 9 ∈ lw_tbl := am_tb1 (i := 152) rfl
theorem am_k1736 : Cond.instantiable RX7 6 ∈ lw_tbl := am_tb1 (i := 45) rfl
theorem am_k1737 : Cond.instantiable RX8 2 ∈ lw_tbl := am_tb1 (i := 31) rfl
theorem am_k1738 : Cond.instantiable RX9 8 ∈ lw_tbl := am_tb1 (i := 194) rfl
theorem am_k1739 : Cond.instantiable RX10 2 ∈ lw_tbl := am_tb1 (i := 158) rfl
theorem am_k1740 : Cond.instantiable RX11 12 ∈ lw_tbl := am_tb1 (i := 23) rfl
theorem am_k1741 : Cond.instantiable RX12 60 ∈ lw_tbl := am_tb6 (i := 169) rfl
theorem am_k1742 : Cond.arrayClass .int ∈ lw_tbl := am_tb1 (i := 100) rfl
theorem am_k1743 : Cond.arrayClass .long ∈ lw_tbl := am_tb1 (i := 192) rfl
theorem am_k1744 : Cond.arrayClass .byte ∈ lw_tbl := am_tb1 (i := 43) rfl
theorem am_k1745 : Cond.arrayClass .boolean ∈ lw_tbl := am_tb7 (i := 126) rfl
theorem am_k1746 : Cond.arrayOver (.object "OnlyLent$Holdings") ∈ lw_tbl := am_tb1 (i := 101) rfl
theorem am_k1747 : Cond.arrayOver (.object "java/lang/String") ∈ lw_tbl := am_tb6 (i := 177) rfl
theorem am_k1748 : Cond.arrayOver (.array .int) ∈ lw_tbl := am_tb6 (i := 175) rfl
theorem am_k1749 : Cond.native arraycopyName ∈ lw_tbl := am_tb6 (i := 139) rfl
theorem am_k1750 : Cond.static arraycopyName ∈ lw_tbl := am_tb6 (i := 138) rfl
theorem am_k1751 : Cond.initialized "java/lang/System" ∈ lw_tbl := am_tb1 (i := 21) rfl
theorem am_k1752 : Cond.initialized "java/lang/Math" ∈ lw_tbl := am_tb1 (i := 14) rfl
theorem am_k1753 : Cond.static Lib.Math.abs.name ∈ lw_tbl := am_tb4 (i := 123) rfl
theorem am_k1754 : Cond.static Lib.Math.max.name ∈ lw_tbl := am_tb8 (i := 211) rfl
theorem am_k1755 : Cond.static Lib.Math.min.name ∈ lw_tbl := am_tb3 (i := 0) rfl
theorem am_k1756 : Cond.static Lib.MathLoose.min_long.x ∈ lw_tbl := am_tb5 (i := 78) rfl
theorem am_k1757 : Cond.code Lib.Math.abs.name Lib.Math.abs.code 1 (some .int) ∈ lw_tbl := am_tb4 (i := 124) rfl
theorem am_k1758 : Cond.code Lib.Math.max.name Lib.Math.max.code 2 (some .int) ∈ lw_tbl := am_tb8 (i := 212) rfl
theorem am_k1759 : Cond.code Lib.Math.min.name Lib.Math.min.code 2 (some .int) ∈ lw_tbl := am_tb3 (i := 1) rfl
theorem am_k1760 : Cond.code Lib.MathLoose.min_long.x Lib.MathLoose.min_long.code 4 (some .long) ∈ lw_tbl := am_tb5 (i := 79) rfl
theorem am_k1761 : Cond.code objectInit ⟨#[0xb1]⟩ 1 none ∈ lw_tbl := am_tb1 (i := 29) rfl
theorem am_k1762 : Cond.instanceMethod objectInit ∈ lw_tbl := am_tb1 (i := 28) rfl
def am_mN (m : Nat) : MethodName := match am_ML[m]? with
  | some q => q.1
  | none => ⟨"", "", ""⟩
def am_mB (m : Nat) : ByteArray := match am_ML[m]? with
  | some q => q.2.1
  | none => ⟨#[]⟩
def am_mL (m : Nat) : Nat := match am_ML[m]? with
  | some q => q.2.2.1
  | none => 0
def am_mR (m : Nat) : Option FieldType := match am_ML[m]? with
  | some q => q.2.2.2.1
  | none => none
def am_mO (m : Nat) : Nat := match am_ML[m]? with
  | some q => q.2.2.2.2.1
  | none => 0
def am_mK (m : Nat) : Nat := match am_ML[m]? with
  | some q => q.2.2.2.2.2.1
  | none => 0
def am_mS (m : Nat) : Nat := match am_ML[m]? with
  | some q => q.2.2.2.2.2.2.1
  | none => 0
def am_mF (m : Nat) : Nat := match am_ML[m]? with
  | some q => q.2.2.2.2.2.2.2.1
  | none => 0
def am_mP (m : Nat) : Nat := match am_ML[m]? with
  | some q => q.2.2.2.2.2.2.2.2
  | none => 0
def am_fword (e : Nat × Nat × Nat × Nat) : Cond := if e.2.2.1 = 13 then (if e.2.2.2 = 0 then .fieldLink (am_ON e.1) e.2.1 "java/lang/String" "value" "[B" else .fieldLink (am_ON e.1) e.2.1 "java/lang/String" "coder" "B") else match vwCl[e.2.2.1]? with
  | some (_, T, _) => .fieldLink (am_ON e.1) e.2.1 (T e.2.2.2).1 (T e.2.2.2).2.1 (T e.2.2.2).2.2.1
  | none => .initialized ""
def am_mword (e : Nat × Nat × Nat × Nat) : Cond := if e.2.2.2 = 0 then .methodLink (am_ON e.1) e.2.1 (am_mN e.2.2.1) else .methodLinkNest (am_ON e.1) e.2.1 (am_mN e.2.2.1) "OnlyLent"
def am_pname (k : Nat) : MethodName := match k with
  | 0 => arraycopyName
  | 1 => Lib.Math.abs.name
  | 2 => Lib.Math.max.name
  | 3 => Lib.Math.min.name
  | 4 => Lib.MathLoose.min_long.x
  | _ => objectInit
set_option maxRecDepth 100000 in
theorem am_fT_in : ∀ e ∈ am_fT, am_fword e ∈ lw_tbl := List.forall_mem_cons.mpr ⟨am_k1, List.forall_mem_cons.mpr ⟨am_k2, List.forall_mem_cons.mpr ⟨am_k3, List.forall_mem_cons.mpr ⟨am_k4, List.forall_mem_cons.mpr ⟨am_k5, List.forall_mem_cons.mpr ⟨am_k6, List.forall_mem_cons.mpr ⟨am_k7, List.forall_mem_cons.mpr ⟨am_k8, List.forall_mem_cons.mpr ⟨am_k9, List.forall_mem_cons.mpr ⟨am_k10, List.forall_mem_cons.mpr ⟨am_k11, List.forall_mem_cons.mpr ⟨am_k12, List.forall_mem_cons.mpr ⟨am_k13, List.forall_mem_cons.mpr ⟨am_k14, List.forall_mem_cons.mpr ⟨am_k15, List.forall_mem_cons.mpr ⟨am_k16, List.forall_mem_cons.mpr ⟨am_k17, List.forall_mem_cons.mpr ⟨am_k18, List.forall_mem_cons.mpr ⟨am_k19, List.forall_mem_cons.mpr ⟨am_k20, List.forall_mem_cons.mpr ⟨am_k21, List.forall_mem_cons.mpr ⟨am_k22, List.forall_mem_cons.mpr ⟨am_k23, List.forall_mem_cons.mpr ⟨am_k24, List.forall_mem_cons.mpr ⟨am_k25, List.forall_mem_cons.mpr ⟨am_k26, List.forall_mem_cons.mpr ⟨am_k27, List.forall_mem_cons.mpr ⟨am_k28, List.forall_mem_cons.mpr ⟨am_k29, List.forall_mem_cons.mpr ⟨am_k30, List.forall_mem_cons.mpr ⟨am_k31, List.forall_mem_cons.mpr ⟨am_k32, List.forall_mem_cons.mpr ⟨am_k33, List.forall_mem_cons.mpr ⟨am_k34, List.forall_mem_cons.mpr ⟨am_k35, List.forall_mem_cons.mpr ⟨am_k36, List.forall_mem_cons.mpr ⟨am_k37, List.forall_mem_cons.mpr ⟨am_k38, List.forall_mem_cons.mpr ⟨am_k39, List.forall_mem_cons.mpr ⟨am_k40, List.forall_mem_cons.mpr ⟨am_k41, List.forall_mem_cons.mpr ⟨am_k42, List.forall_mem_cons.mpr ⟨am_k43, List.forall_mem_cons.mpr ⟨am_k44, List.forall_mem_cons.mpr ⟨am_k45, List.forall_mem_cons.mpr ⟨am_k46, List.forall_mem_cons.mpr ⟨am_k47, List.forall_mem_cons.mpr ⟨am_k48, List.forall_mem_cons.mpr ⟨am_k49, List.forall_mem_cons.mpr ⟨am_k50, List.forall_mem_cons.mpr ⟨am_k51, List.forall_mem_cons.mpr ⟨am_k52, List.forall_mem_cons.mpr ⟨am_k53, List.forall_mem_cons.mpr ⟨am_k54, List.forall_mem_cons.mpr ⟨am_k55, List.forall_mem_cons.mpr ⟨am_k56, List.forall_mem_cons.mpr ⟨am_k57, List.forall_mem_cons.mpr ⟨am_k58, List.forall_mem_cons.mpr ⟨am_k59, List.forall_mem_cons.mpr ⟨am_k60, List.forall_mem_cons.mpr ⟨am_k61, List.forall_mem_cons.mpr ⟨am_k62, List.forall_mem_cons.mpr ⟨am_k63, List.forall_mem_cons.mpr ⟨am_k64, List.forall_mem_cons.mpr ⟨am_k65, List.forall_mem_cons.mpr ⟨am_k66, List.forall_mem_cons.mpr ⟨am_k67, List.forall_mem_cons.mpr ⟨am_k68, List.forall_mem_cons.mpr ⟨am_k69, List.forall_mem_cons.mpr ⟨am_k70, List.forall_mem_cons.mpr ⟨am_k71, List.forall_mem_cons.mpr ⟨am_k72, List.forall_mem_cons.mpr ⟨am_k73, List.forall_mem_cons.mpr ⟨am_k74, List.forall_mem_cons.mpr ⟨am_k75, List.forall_mem_cons.mpr ⟨am_k76, List.forall_mem_cons.mpr ⟨am_k77, List.forall_mem_cons.mpr ⟨am_k78, List.forall_mem_cons.mpr ⟨am_k79, List.forall_mem_cons.mpr ⟨am_k80, List.forall_mem_cons.mpr ⟨am_k81, List.forall_mem_cons.mpr ⟨am_k82, List.forall_mem_cons.mpr ⟨am_k83, List.forall_mem_cons.mpr ⟨am_k84, List.forall_mem_cons.mpr ⟨am_k85, List.forall_mem_cons.mpr ⟨am_k86, List.forall_mem_cons.mpr ⟨am_k87, List.forall_mem_cons.mpr ⟨am_k88, List.forall_mem_cons.mpr ⟨am_k89, List.forall_mem_cons.mpr ⟨am_k90, List.forall_mem_cons.mpr ⟨am_k91, List.forall_mem_cons.mpr ⟨am_k92, List.forall_mem_cons.mpr ⟨am_k93, List.forall_mem_cons.mpr ⟨am_k94, List.forall_mem_cons.mpr ⟨am_k95, List.forall_mem_cons.mpr ⟨am_k96, List.forall_mem_cons.mpr ⟨am_k97, List.forall_mem_cons.mpr ⟨am_k98, List.forall_mem_cons.mpr ⟨am_k99, List.forall_mem_cons.mpr ⟨am_k100, List.forall_mem_cons.mpr ⟨am_k101, List.forall_mem_cons.mpr ⟨am_k102, List.forall_mem_cons.mpr ⟨am_k103, List.forall_mem_cons.mpr ⟨am_k104, List.forall_mem_cons.mpr ⟨am_k105, List.forall_mem_cons.mpr ⟨am_k106, List.forall_mem_cons.mpr ⟨am_k107, List.forall_mem_cons.mpr ⟨am_k108, List.forall_mem_cons.mpr ⟨am_k109, List.forall_mem_cons.mpr ⟨am_k110, List.forall_mem_cons.mpr ⟨am_k111, List.forall_mem_cons.mpr ⟨am_k112, List.forall_mem_cons.mpr ⟨am_k113, List.forall_mem_cons.mpr ⟨am_k114, List.forall_mem_cons.mpr ⟨am_k115, List.forall_mem_cons.mpr ⟨am_k116, List.forall_mem_cons.mpr ⟨am_k117, List.forall_mem_cons.mpr ⟨am_k118, List.forall_mem_cons.mpr ⟨am_k119, List.forall_mem_cons.mpr ⟨am_k120, List.forall_mem_cons.mpr ⟨am_k121, List.forall_mem_cons.mpr ⟨am_k122, List.forall_mem_cons.mpr ⟨am_k123, List.forall_mem_cons.mpr ⟨am_k124, List.forall_mem_cons.mpr ⟨am_k125, List.forall_mem_cons.mpr ⟨am_k126, List.forall_mem_cons.mpr ⟨am_k127, List.forall_mem_cons.mpr ⟨am_k128, List.forall_mem_cons.mpr ⟨am_k129, List.forall_mem_cons.mpr ⟨am_k130, List.forall_mem_cons.mpr ⟨am_k131, List.forall_mem_cons.mpr ⟨am_k132, List.forall_mem_cons.mpr ⟨am_k133, List.forall_mem_cons.mpr ⟨am_k134, List.forall_mem_cons.mpr ⟨am_k135, List.forall_mem_cons.mpr ⟨am_k136, List.forall_mem_cons.mpr ⟨am_k137, List.forall_mem_cons.mpr ⟨am_k138, List.forall_mem_cons.mpr ⟨am_k139, List.forall_mem_cons.mpr ⟨am_k140, List.forall_mem_cons.mpr ⟨am_k141, List.forall_mem_cons.mpr ⟨am_k142, List.forall_mem_cons.mpr ⟨am_k143, List.forall_mem_cons.mpr ⟨am_k144, List.forall_mem_cons.mpr ⟨am_k145, List.forall_mem_cons.mpr ⟨am_k146, List.forall_mem_cons.mpr ⟨am_k147, List.forall_mem_cons.mpr ⟨am_k148, List.forall_mem_cons.mpr ⟨am_k149, List.forall_mem_cons.mpr ⟨am_k150, List.forall_mem_cons.mpr ⟨am_k151, List.forall_mem_cons.mpr ⟨am_k152, List.forall_mem_cons.mpr ⟨am_k153, List.forall_mem_cons.mpr ⟨am_k154, List.forall_mem_cons.mpr ⟨am_k155, List.forall_mem_cons.mpr ⟨am_k156, List.forall_mem_cons.mpr ⟨am_k157, fun _ h => absurd h List.not_mem_nil⟩⟩⟩⟩⟩⟩⟩⟩⟩⟩⟩⟩⟩⟩⟩⟩⟩⟩⟩⟩⟩⟩⟩⟩⟩⟩⟩⟩⟩⟩⟩⟩⟩⟩⟩⟩⟩⟩⟩⟩⟩⟩⟩⟩⟩⟩⟩⟩⟩⟩⟩⟩⟩⟩⟩⟩⟩⟩⟩⟩⟩⟩⟩⟩⟩⟩⟩⟩⟩⟩⟩⟩⟩⟩⟩⟩⟩⟩⟩⟩⟩⟩⟩⟩⟩⟩⟩⟩⟩⟩⟩⟩⟩⟩⟩⟩⟩⟩⟩⟩⟩⟩⟩⟩⟩⟩⟩⟩⟩⟩⟩⟩⟩⟩⟩⟩⟩⟩⟩⟩⟩⟩⟩⟩⟩⟩⟩⟩⟩⟩⟩⟩⟩⟩⟩⟩⟩⟩⟩⟩⟩⟩⟩⟩⟩⟩⟩⟩⟩⟩⟩⟩⟩⟩⟩⟩⟩
set_option maxRecDepth 100000 in
theorem am_mT_in : ∀ e ∈ am_mT, am_mword e ∈ lw_tbl := List.forall_mem_cons.mpr ⟨am_k158, List.forall_mem_cons.mpr ⟨am_k159, List.forall_mem_cons.mpr ⟨am_k160, List.forall_mem_cons.mpr ⟨am_k161, List.forall_mem_cons.mpr ⟨am_k162, List.forall_mem_cons.mpr ⟨am_k163, List.forall_mem_cons.mpr ⟨am_k164, List.forall_mem_cons.mpr ⟨am_k165, List.forall_mem_cons.mpr ⟨am_k166, List.forall_mem_cons.mpr ⟨am_k167, List.forall_mem_cons.mpr ⟨am_k168, List.forall_mem_cons.mpr ⟨am_k169, List.forall_mem_cons.mpr ⟨am_k170, List.forall_mem_cons.mpr ⟨am_k171, List.forall_mem_cons.mpr ⟨am_k172, List.forall_mem_cons.mpr ⟨am_k173, List.forall_mem_cons.mpr ⟨am_k174, List.forall_mem_cons.mpr ⟨am_k175, List.forall_mem_cons.mpr ⟨am_k176, List.forall_mem_cons.mpr ⟨am_k177, List.forall_mem_cons.mpr ⟨am_k178, List.forall_mem_cons.mpr ⟨am_k179, List.forall_mem_cons.mpr ⟨am_k180, List.forall_mem_cons.mpr ⟨am_k181, List.forall_mem_cons.mpr ⟨am_k182, List.forall_mem_cons.mpr ⟨am_k183, List.forall_mem_cons.mpr ⟨am_k184, List.forall_mem_cons.mpr ⟨am_k185, List.forall_mem_cons.mpr ⟨am_k186, List.forall_mem_cons.mpr ⟨am_k187, List.forall_mem_cons.mpr ⟨am_k188, List.forall_mem_cons.mpr ⟨am_k189, List.forall_mem_cons.mpr ⟨am_k190, List.forall_mem_cons.mpr ⟨am_k191, List.forall_mem_cons.mpr ⟨am_k192, List.forall_mem_cons.mpr ⟨am_k193, List.forall_mem_cons.mpr ⟨am_k194, List.forall_mem_cons.mpr ⟨am_k195, List.forall_mem_cons.mpr ⟨am_k196, List.forall_mem_cons.mpr ⟨am_k197, List.forall_mem_cons.mpr ⟨am_k198, List.forall_mem_cons.mpr ⟨am_k199, List.forall_mem_cons.mpr ⟨am_k200, List.forall_mem_cons.mpr ⟨am_k201, List.forall_mem_cons.mpr ⟨am_k202, List.forall_mem_cons.mpr ⟨am_k203, List.forall_mem_cons.mpr ⟨am_k204, List.forall_mem_cons.mpr ⟨am_k205, List.forall_mem_cons.mpr ⟨am_k206, List.forall_mem_cons.mpr ⟨am_k207, List.forall_mem_cons.mpr ⟨am_k208, List.forall_mem_cons.mpr ⟨am_k209, List.forall_mem_cons.mpr ⟨am_k210, List.forall_mem_cons.mpr ⟨am_k211, List.forall_mem_cons.mpr ⟨am_k212, List.forall_mem_cons.mpr ⟨am_k213, List.forall_mem_cons.mpr ⟨am_k214, List.forall_mem_cons.mpr ⟨am_k215, List.forall_mem_cons.mpr ⟨am_k216, List.forall_mem_cons.mpr ⟨am_k217, List.forall_mem_cons.mpr ⟨am_k218, List.forall_mem_cons.mpr ⟨am_k219, List.forall_mem_cons.mpr ⟨am_k220, List.forall_mem_cons.mpr ⟨am_k221, List.forall_mem_cons.mpr ⟨am_k222, List.forall_mem_cons.mpr ⟨am_k223, List.forall_mem_cons.mpr ⟨am_k224, List.forall_mem_cons.mpr ⟨am_k225, List.forall_mem_cons.mpr ⟨am_k226, List.forall_mem_cons.mpr ⟨am_k227, List.forall_mem_cons.mpr ⟨am_k228, List.forall_mem_cons.mpr ⟨am_k229, List.forall_mem_cons.mpr ⟨am_k230, List.forall_mem_cons.mpr ⟨am_k231, List.forall_mem_cons.mpr ⟨am_k232, List.forall_mem_cons.mpr ⟨am_k233, List.forall_mem_cons.mpr ⟨am_k234, List.forall_mem_cons.mpr ⟨am_k235, List.forall_mem_cons.mpr ⟨am_k236, List.forall_mem_cons.mpr ⟨am_k237, List.forall_mem_cons.mpr ⟨am_k238, List.forall_mem_cons.mpr ⟨am_k239, List.forall_mem_cons.mpr ⟨am_k240, List.forall_mem_cons.mpr ⟨am_k241, List.forall_mem_cons.mpr ⟨am_k242, List.forall_mem_cons.mpr ⟨am_k243, List.forall_mem_cons.mpr ⟨am_k244, List.forall_mem_cons.mpr ⟨am_k245, List.forall_mem_cons.mpr ⟨am_k246, List.forall_mem_cons.mpr ⟨am_k247, List.forall_mem_cons.mpr ⟨am_k248, List.forall_mem_cons.mpr ⟨am_k249, List.forall_mem_cons.mpr ⟨am_k250, List.forall_mem_cons.mpr ⟨am_k251, List.forall_mem_cons.mpr ⟨am_k252, List.forall_mem_cons.mpr ⟨am_k253, List.forall_mem_cons.mpr ⟨am_k254, List.forall_mem_cons.mpr ⟨am_k255, List.forall_mem_cons.mpr ⟨am_k256, List.forall_mem_cons.mpr ⟨am_k257, List.forall_mem_cons.mpr ⟨am_k258, List.forall_mem_cons.mpr ⟨am_k259, List.forall_mem_cons.mpr ⟨am_k260, List.forall_mem_cons.mpr ⟨am_k261, List.forall_mem_cons.mpr ⟨am_k262, List.forall_mem_cons.mpr ⟨am_k263, List.forall_mem_cons.mpr ⟨am_k264, List.forall_mem_cons.mpr ⟨am_k265, List.forall_mem_cons.mpr ⟨am_k266, List.forall_mem_cons.mpr ⟨am_k267, List.forall_mem_cons.mpr ⟨am_k268, List.forall_mem_cons.mpr ⟨am_k269, List.forall_mem_cons.mpr ⟨am_k270, List.forall_mem_cons.mpr ⟨am_k271, List.forall_mem_cons.mpr ⟨am_k272, List.forall_mem_cons.mpr ⟨am_k273, List.forall_mem_cons.mpr ⟨am_k274, List.forall_mem_cons.mpr ⟨am_k275, List.forall_mem_cons.mpr ⟨am_k276, List.forall_mem_cons.mpr ⟨am_k277, List.forall_mem_cons.mpr ⟨am_k278, List.forall_mem_cons.mpr ⟨am_k279, List.forall_mem_cons.mpr ⟨am_k280, List.forall_mem_cons.mpr ⟨am_k281, List.forall_mem_cons.mpr ⟨am_k282, List.forall_mem_cons.mpr ⟨am_k283, List.forall_mem_cons.mpr ⟨am_k284, List.forall_mem_cons.mpr ⟨am_k285, List.forall_mem_cons.mpr ⟨am_k286, List.forall_mem_cons.mpr ⟨am_k287, List.forall_mem_cons.mpr ⟨am_k288, List.forall_mem_cons.mpr ⟨am_k289, List.forall_mem_cons.mpr ⟨am_k290, List.forall_mem_cons.mpr ⟨am_k291, List.forall_mem_cons.mpr ⟨am_k292, List.forall_mem_cons.mpr ⟨am_k293, List.forall_mem_cons.mpr ⟨am_k294, List.forall_mem_cons.mpr ⟨am_k295, List.forall_mem_cons.mpr ⟨am_k296, List.forall_mem_cons.mpr ⟨am_k297, List.forall_mem_cons.mpr ⟨am_k298, List.forall_mem_cons.mpr ⟨am_k299, List.forall_mem_cons.mpr ⟨am_k300, List.forall_mem_cons.mpr ⟨am_k301, List.forall_mem_cons.mpr ⟨am_k302, List.forall_mem_cons.mpr ⟨am_k303, List.forall_mem_cons.mpr ⟨am_k304, List.forall_mem_cons.mpr ⟨am_k305, List.forall_mem_cons.mpr ⟨am_k306, List.forall_mem_cons.mpr ⟨am_k307, List.forall_mem_cons.mpr ⟨am_k308, List.forall_mem_cons.mpr ⟨am_k309, List.forall_mem_cons.mpr ⟨am_k310, List.forall_mem_cons.mpr ⟨am_k311, List.forall_mem_cons.mpr ⟨am_k312, List.forall_mem_cons.mpr ⟨am_k313, List.forall_mem_cons.mpr ⟨am_k314, List.forall_mem_cons.mpr ⟨am_k315, List.forall_mem_cons.mpr ⟨am_k316, List.forall_mem_cons.mpr ⟨am_k317, List.forall_mem_cons.mpr ⟨am_k318, List.forall_mem_cons.mpr ⟨am_k319, List.forall_mem_cons.mpr ⟨am_k320, List.forall_mem_cons.mpr ⟨am_k321, List.forall_mem_cons.mpr ⟨am_k322, List.forall_mem_cons.mpr ⟨am_k323, List.forall_mem_cons.mpr ⟨am_k324, List.forall_mem_cons.mpr ⟨am_k325, List.forall_mem_cons.mpr ⟨am_k326, List.forall_mem_cons.mpr ⟨am_k327, List.forall_mem_cons.mpr ⟨am_k328, List.forall_mem_cons.mpr ⟨am_k329, List.forall_mem_cons.mpr ⟨am_k330, List.forall_mem_cons.mpr ⟨am_k331, List.forall_mem_cons.mpr ⟨am_k332, List.forall_mem_cons.mpr ⟨am_k333, List.forall_mem_cons.mpr ⟨am_k334, List.forall_mem_cons.mpr ⟨am_k335, List.forall_mem_cons.mpr ⟨am_k336, List.forall_mem_cons.mpr ⟨am_k337, List.forall_mem_cons.mpr ⟨am_k338, List.forall_mem_cons.mpr ⟨am_k339, List.forall_mem_cons.mpr ⟨am_k340, List.forall_mem_cons.mpr ⟨am_k341, List.forall_mem_cons.mpr ⟨am_k342, List.forall_mem_cons.mpr ⟨am_k343, List.forall_mem_cons.mpr ⟨am_k344, List.forall_mem_cons.mpr ⟨am_k345, List.forall_mem_cons.mpr ⟨am_k346, List.forall_mem_cons.mpr ⟨am_k347, List.forall_mem_cons.mpr ⟨am_k348, List.forall_mem_cons.mpr ⟨am_k349, List.forall_mem_cons.mpr ⟨am_k350, List.forall_mem_cons.mpr ⟨am_k351, List.forall_mem_cons.mpr ⟨am_k352, List.forall_mem_cons.mpr ⟨am_k353, List.forall_mem_cons.mpr ⟨am_k354, List.forall_mem_cons.mpr ⟨am_k355, List.forall_mem_cons.mpr ⟨am_k356, List.forall_mem_cons.mpr ⟨am_k357, List.forall_mem_cons.mpr ⟨am_k358, List.forall_mem_cons.mpr ⟨am_k359, List.forall_mem_cons.mpr ⟨am_k360, List.forall_mem_cons.mpr ⟨am_k361, List.forall_mem_cons.mpr ⟨am_k362, List.forall_mem_cons.mpr ⟨am_k363, List.forall_mem_cons.mpr ⟨am_k364, List.forall_mem_cons.mpr ⟨am_k365, List.forall_mem_cons.mpr ⟨am_k366, List.forall_mem_cons.mpr ⟨am_k367, List.forall_mem_cons.mpr ⟨am_k368, List.forall_mem_cons.mpr ⟨am_k369, List.forall_mem_cons.mpr ⟨am_k370, List.forall_mem_cons.mpr ⟨am_k371, List.forall_mem_cons.mpr ⟨am_k372, List.forall_mem_cons.mpr ⟨am_k373, List.forall_mem_cons.mpr ⟨am_k374, List.forall_mem_cons.mpr ⟨am_k375, List.forall_mem_cons.mpr ⟨am_k376, List.forall_mem_cons.mpr ⟨am_k377, List.forall_mem_cons.mpr ⟨am_k378, List.forall_mem_cons.mpr ⟨am_k379, List.forall_mem_cons.mpr ⟨am_k380, List.forall_mem_cons.mpr ⟨am_k381, List.forall_mem_cons.mpr ⟨am_k382, List.forall_mem_cons.mpr ⟨am_k383, List.forall_mem_cons.mpr ⟨am_k384, List.forall_mem_cons.mpr ⟨am_k385, List.forall_mem_cons.mpr ⟨am_k386, List.forall_mem_cons.mpr ⟨am_k387, List.forall_mem_cons.mpr ⟨am_k388, List.forall_mem_cons.mpr ⟨am_k389, List.forall_mem_cons.mpr ⟨am_k390, List.forall_mem_cons.mpr ⟨am_k391, List.forall_mem_cons.mpr ⟨am_k392, List.forall_mem_cons.mpr ⟨am_k393, List.forall_mem_cons.mpr ⟨am_k394, List.forall_mem_cons.mpr ⟨am_k395, List.forall_mem_cons.mpr ⟨am_k396, List.forall_mem_cons.mpr ⟨am_k397, List.forall_mem_cons.mpr ⟨am_k398, List.forall_mem_cons.mpr ⟨am_k399, List.forall_mem_cons.mpr ⟨am_k400, List.forall_mem_cons.mpr ⟨am_k401, List.forall_mem_cons.mpr ⟨am_k402, List.forall_mem_cons.mpr ⟨am_k403, List.forall_mem_cons.mpr ⟨am_k404, List.forall_mem_cons.mpr ⟨am_k405, List.forall_mem_cons.mpr ⟨am_k406, List.forall_mem_cons.mpr ⟨am_k407, List.forall_mem_cons.mpr ⟨am_k408, List.forall_mem_cons.mpr ⟨am_k409, List.forall_mem_cons.mpr ⟨am_k410, List.forall_mem_cons.mpr ⟨am_k411, List.forall_mem_cons.mpr ⟨am_k412, List.forall_mem_cons.mpr ⟨am_k413, List.forall_mem_cons.mpr ⟨am_k414, List.forall_mem_cons.mpr ⟨am_k415, List.forall_mem_cons.mpr ⟨am_k416, List.forall_mem_cons.mpr ⟨am_k417, List.forall_mem_cons.mpr ⟨am_k418, List.forall_mem_cons.mpr ⟨am_k419, List.forall_mem_cons.mpr ⟨am_k420, List.forall_mem_cons.mpr ⟨am_k421, List.forall_mem_cons.mpr ⟨am_k422, List.forall_mem_cons.mpr ⟨am_k423, List.forall_mem_cons.mpr ⟨am_k424, List.forall_mem_cons.mpr ⟨am_k425, List.forall_mem_cons.mpr ⟨am_k426, List.forall_mem_cons.mpr ⟨am_k427, List.forall_mem_cons.mpr ⟨am_k428, List.forall_mem_cons.mpr ⟨am_k429, List.forall_mem_cons.mpr ⟨am_k430, List.forall_mem_cons.mpr ⟨am_k431, List.forall_mem_cons.mpr ⟨am_k432, List.forall_mem_cons.mpr ⟨am_k433, List.forall_mem_cons.mpr ⟨am_k434, List.forall_mem_cons.mpr ⟨am_k435, List.forall_mem_cons.mpr ⟨am_k436, List.forall_mem_cons.mpr ⟨am_k437, List.forall_mem_cons.mpr ⟨am_k438, List.forall_mem_cons.mpr ⟨am_k439, List.forall_mem_cons.mpr ⟨am_k440, List.forall_mem_cons.mpr ⟨am_k441, List.forall_mem_cons.mpr ⟨am_k442, List.forall_mem_cons.mpr ⟨am_k443, List.forall_mem_cons.mpr ⟨am_k444, List.forall_mem_cons.mpr ⟨am_k445, List.forall_mem_cons.mpr ⟨am_k446, List.forall_mem_cons.mpr ⟨am_k447, List.forall_mem_cons.mpr ⟨am_k448, List.forall_mem_cons.mpr ⟨am_k449, List.forall_mem_cons.mpr ⟨am_k450, List.forall_mem_cons.mpr ⟨am_k451, List.forall_mem_cons.mpr ⟨am_k452, List.forall_mem_cons.mpr ⟨am_k453, List.forall_mem_cons.mpr ⟨am_k454, List.forall_mem_cons.mpr ⟨am_k455, List.forall_mem_cons.mpr ⟨am_k456, List.forall_mem_cons.mpr ⟨am_k457, List.forall_mem_cons.mpr ⟨am_k458, List.forall_mem_cons.mpr ⟨am_k459, List.forall_mem_cons.mpr ⟨am_k460, List.forall_mem_cons.mpr ⟨am_k461, List.forall_mem_cons.mpr ⟨am_k462, List.forall_mem_cons.mpr ⟨am_k463, List.forall_mem_cons.mpr ⟨am_k464, List.forall_mem_cons.mpr ⟨am_k465, List.forall_mem_cons.mpr ⟨am_k466, List.forall_mem_cons.mpr ⟨am_k467, List.forall_mem_cons.mpr ⟨am_k468, List.forall_mem_cons.mpr ⟨am_k469, List.forall_mem_cons.mpr ⟨am_k470, List.forall_mem_cons.mpr ⟨am_k471, List.forall_mem_cons.mpr ⟨am_k472, List.forall_mem_cons.mpr ⟨am_k473, List.forall_mem_cons.mpr ⟨am_k474, List.forall_mem_cons.mpr ⟨am_k475, List.forall_mem_cons.mpr ⟨am_k476, List.forall_mem_cons.mpr ⟨am_k477, List.forall_mem_cons.mpr ⟨am_k478, List.forall_mem_cons.mpr ⟨am_k479, List.forall_mem_cons.mpr ⟨am_k480, List.forall_mem_cons.mpr ⟨am_k481, List.forall_mem_cons.mpr ⟨am_k482, List.forall_mem_cons.mpr ⟨am_k483, List.forall_mem_cons.mpr ⟨am_k484, List.forall_mem_cons.mpr ⟨am_k485, List.forall_mem_cons.mpr ⟨am_k486, List.forall_mem_cons.mpr ⟨am_k487, List.forall_mem_cons.mpr ⟨am_k488, List.forall_mem_cons.mpr ⟨am_k489, List.forall_mem_cons.mpr ⟨am_k490, List.forall_mem_cons.mpr ⟨am_k491, List.forall_mem_cons.mpr ⟨am_k492, List.forall_mem_cons.mpr ⟨am_k493, List.forall_mem_cons.mpr ⟨am_k494, List.forall_mem_cons.mpr ⟨am_k495, List.forall_mem_cons.mpr ⟨am_k496, List.forall_mem_cons.mpr ⟨am_k497, List.forall_mem_cons.mpr ⟨am_k498, List.forall_mem_cons.mpr ⟨am_k499, List.forall_mem_cons.mpr ⟨am_k500, List.forall_mem_cons.mpr ⟨am_k501, List.forall_mem_cons.mpr ⟨am_k502, List.forall_mem_cons.mpr ⟨am_k503, List.forall_mem_cons.mpr ⟨am_k504, List.forall_mem_cons.mpr ⟨am_k505, List.forall_mem_cons.mpr ⟨am_k506, List.forall_mem_cons.mpr ⟨am_k507, List.forall_mem_cons.mpr ⟨am_k508, List.forall_mem_cons.mpr ⟨am_k509, List.forall_mem_cons.mpr ⟨am_k510, List.forall_mem_cons.mpr ⟨am_k511, List.forall_mem_cons.mpr ⟨am_k512, List.forall_mem_cons.mpr ⟨am_k513, List.forall_mem_cons.mpr ⟨am_k514, List.forall_mem_cons.mpr ⟨am_k515, List.forall_mem_cons.mpr ⟨am_k516, List.forall_mem_cons.mpr ⟨am_k517, List.forall_mem_cons.mpr ⟨am_k518, List.forall_mem_cons.mpr ⟨am_k519, List.forall_mem_cons.mpr ⟨am_k520, List.forall_mem_cons.mpr ⟨am_k521, List.forall_mem_cons.mpr ⟨am_k522, List.forall_mem_cons.mpr ⟨am_k523, List.forall_mem_cons.mpr ⟨am_k524, List.forall_mem_cons.mpr ⟨am_k525, List.forall_mem_cons.mpr ⟨am_k526, List.forall_mem_cons.mpr ⟨am_k527, List.forall_mem_cons.mpr ⟨am_k528, List.forall_mem_cons.mpr ⟨am_k529, List.forall_mem_cons.mpr ⟨am_k530, List.forall_mem_cons.mpr ⟨am_k531, List.forall_mem_cons.mpr ⟨am_k532, List.forall_mem_cons.mpr ⟨am_k533, List.forall_mem_cons.mpr ⟨am_k534, List.forall_mem_cons.mpr ⟨am_k535, List.forall_mem_cons.mpr ⟨am_k536, List.forall_mem_cons.mpr ⟨am_k537, List.forall_mem_cons.mpr ⟨am_k538, List.forall_mem_cons.mpr ⟨am_k539, List.forall_mem_cons.mpr ⟨am_k540, List.forall_mem_cons.mpr ⟨am_k541, List.forall_mem_cons.mpr ⟨am_k542, List.forall_mem_cons.mpr ⟨am_k543, List.forall_mem_cons.mpr ⟨am_k544, List.forall_mem_cons.mpr ⟨am_k545, List.forall_mem_cons.mpr ⟨am_k546, List.forall_mem_cons.mpr ⟨am_k547, List.forall_mem_cons.mpr ⟨am_k548, List.forall_mem_cons.mpr ⟨am_k549, List.forall_mem_cons.mpr ⟨am_k550, List.forall_mem_cons.mpr ⟨am_k551, List.forall_mem_cons.mpr ⟨am_k552, List.forall_mem_cons.mpr ⟨am_k553, List.forall_mem_cons.mpr ⟨am_k554, List.forall_mem_cons.mpr ⟨am_k555, List.forall_mem_cons.mpr ⟨am_k556, List.forall_mem_cons.mpr ⟨am_k557, List.forall_mem_cons.mpr ⟨am_k558, List.forall_mem_cons.mpr ⟨am_k559, List.forall_mem_cons.mpr ⟨am_k560, List.forall_mem_cons.mpr ⟨am_k561, List.forall_mem_cons.mpr ⟨am_k562, List.forall_mem_cons.mpr ⟨am_k563, fun _ h => absurd h List.not_mem_nil⟩⟩⟩⟩⟩⟩⟩⟩⟩⟩⟩⟩⟩⟩⟩⟩⟩⟩⟩⟩⟩⟩⟩⟩⟩⟩⟩⟩⟩⟩⟩⟩⟩⟩⟩⟩⟩⟩⟩⟩⟩⟩⟩⟩⟩⟩⟩⟩⟩⟩⟩⟩⟩⟩⟩⟩⟩⟩⟩⟩⟩⟩⟩⟩⟩⟩⟩⟩⟩⟩⟩⟩⟩⟩⟩⟩⟩⟩⟩⟩⟩⟩⟩⟩⟩⟩⟩⟩⟩⟩⟩⟩⟩⟩⟩⟩⟩⟩⟩⟩⟩⟩⟩⟩⟩⟩⟩⟩⟩⟩⟩⟩⟩⟩⟩⟩⟩⟩⟩⟩⟩⟩⟩⟩⟩⟩⟩⟩⟩⟩⟩⟩⟩⟩⟩⟩⟩⟩⟩⟩⟩⟩⟩⟩⟩⟩⟩⟩⟩⟩⟩⟩⟩⟩⟩⟩⟩⟩⟩⟩⟩⟩⟩⟩⟩⟩⟩⟩⟩⟩⟩⟩⟩⟩⟩⟩⟩⟩⟩⟩⟩⟩⟩⟩⟩⟩⟩⟩⟩⟩⟩⟩⟩⟩⟩⟩⟩⟩⟩⟩⟩⟩⟩⟩⟩⟩⟩⟩⟩⟩⟩⟩⟩⟩⟩⟩⟩⟩⟩⟩⟩⟩⟩⟩⟩⟩⟩⟩⟩⟩⟩⟩⟩⟩⟩⟩⟩⟩⟩⟩⟩⟩⟩⟩⟩⟩⟩⟩⟩⟩⟩⟩⟩⟩⟩⟩⟩⟩⟩⟩⟩⟩⟩⟩⟩⟩⟩⟩⟩⟩⟩⟩⟩⟩⟩⟩⟩⟩⟩⟩⟩⟩⟩⟩⟩⟩⟩⟩⟩⟩⟩⟩⟩⟩⟩⟩⟩⟩⟩⟩⟩⟩⟩⟩⟩⟩⟩⟩⟩⟩⟩⟩⟩⟩⟩⟩⟩⟩⟩⟩⟩⟩⟩⟩⟩⟩⟩⟩⟩⟩⟩⟩⟩⟩⟩⟩⟩⟩⟩⟩⟩⟩⟩⟩⟩⟩⟩⟩⟩⟩⟩⟩⟩⟩⟩⟩⟩⟩⟩⟩⟩⟩⟩⟩⟩⟩⟩⟩⟩⟩⟩⟩⟩⟩⟩⟩⟩⟩⟩⟩⟩⟩⟩⟩⟩⟩⟩⟩⟩⟩⟩⟩⟩⟩⟩⟩⟩⟩⟩⟩⟩⟩⟩⟩⟩⟩
set_option maxRecDepth 100000 in
theorem am_pT_in : ∀ e ∈ am_pT, Cond.methodLink (am_ON e.1) e.2.1 (am_pname e.2.2) ∈ lw_tbl := List.forall_mem_cons.mpr ⟨am_k564, List.forall_mem_cons.mpr ⟨am_k565, List.forall_mem_cons.mpr ⟨am_k566, List.forall_mem_cons.mpr ⟨am_k567, List.forall_mem_cons.mpr ⟨am_k568, List.forall_mem_cons.mpr ⟨am_k569, List.forall_mem_cons.mpr ⟨am_k570, List.forall_mem_cons.mpr ⟨am_k571, List.forall_mem_cons.mpr ⟨am_k572, List.forall_mem_cons.mpr ⟨am_k573, List.forall_mem_cons.mpr ⟨am_k574, List.forall_mem_cons.mpr ⟨am_k575, List.forall_mem_cons.mpr ⟨am_k576, List.forall_mem_cons.mpr ⟨am_k577, List.forall_mem_cons.mpr ⟨am_k578, List.forall_mem_cons.mpr ⟨am_k579, List.forall_mem_cons.mpr ⟨am_k580, List.forall_mem_cons.mpr ⟨am_k581, List.forall_mem_cons.mpr ⟨am_k582, List.forall_mem_cons.mpr ⟨am_k583, List.forall_mem_cons.mpr ⟨am_k584, List.forall_mem_cons.mpr ⟨am_k585, List.forall_mem_cons.mpr ⟨am_k586, List.forall_mem_cons.mpr ⟨am_k587, List.forall_mem_cons.mpr ⟨am_k588, List.forall_mem_cons.mpr ⟨am_k589, fun _ h => absurd h List.not_mem_nil⟩⟩⟩⟩⟩⟩⟩⟩⟩⟩⟩⟩⟩⟩⟩⟩⟩⟩⟩⟩⟩⟩⟩⟩⟩⟩
set_option maxRecDepth 100000 in
theorem am_nT_in : ∀ e ∈ am_nT, Cond.classLink (am_ON e.1) e.2.1 (am_ON e.2.2) ∈ lw_tbl := List.forall_mem_cons.mpr ⟨am_k590, List.forall_mem_cons.mpr ⟨am_k591, List.forall_mem_cons.mpr ⟨am_k592, List.forall_mem_cons.mpr ⟨am_k593, List.forall_mem_cons.mpr ⟨am_k594, List.forall_mem_cons.mpr ⟨am_k595, List.forall_mem_cons.mpr ⟨am_k596, List.forall_mem_cons.mpr ⟨am_k597, List.forall_mem_cons.mpr ⟨am_k598, List.forall_mem_cons.mpr ⟨am_k599, List.forall_mem_cons.mpr ⟨am_k600, List.forall_mem_cons.mpr ⟨am_k601, List.forall_mem_cons.mpr ⟨am_k602, fun _ h => absurd h List.not_mem_nil⟩⟩⟩⟩⟩⟩⟩⟩⟩⟩⟩⟩⟩
set_option maxRecDepth 100000 in
theorem am_aT_in : ∀ e ∈ am_aT, Cond.classLink (am_ON e.1) e.2.1 (match e.2.2 with | 7 => "OnlyLent$Holdings" | 8 => "java/lang/String" | _ => "[[I") ∈ lw_tbl := List.forall_mem_cons.mpr ⟨am_k603, List.forall_mem_cons.mpr ⟨am_k604, List.forall_mem_cons.mpr ⟨am_k605, fun _ h => absurd h List.not_mem_nil⟩⟩⟩
set_option maxRecDepth 100000 in
theorem am_cT_in : ∀ e ∈ am_cT, Cond.constant (am_ON e.1) e.2.1 (Int32.ofInt e.2.2) ∈ lw_tbl := List.forall_mem_cons.mpr ⟨am_k606, List.forall_mem_cons.mpr ⟨am_k607, List.forall_mem_cons.mpr ⟨am_k608, List.forall_mem_cons.mpr ⟨am_k609, List.forall_mem_cons.mpr ⟨am_k610, List.forall_mem_cons.mpr ⟨am_k611, List.forall_mem_cons.mpr ⟨am_k612, fun _ h => absurd h List.not_mem_nil⟩⟩⟩⟩⟩⟩⟩
set_option maxRecDepth 100000 in
theorem am_lT_in : ∀ e ∈ am_lT, Cond.constantLong (am_ON e.1) e.2.1 (Int64.ofInt e.2.2) ∈ lw_tbl := List.forall_mem_cons.mpr ⟨am_k613, List.forall_mem_cons.mpr ⟨am_k614, List.forall_mem_cons.mpr ⟨am_k615, List.forall_mem_cons.mpr ⟨am_k616, List.forall_mem_cons.mpr ⟨am_k617, List.forall_mem_cons.mpr ⟨am_k618, List.forall_mem_cons.mpr ⟨am_k619, List.forall_mem_cons.mpr ⟨am_k620, List.forall_mem_cons.mpr ⟨am_k621, List.forall_mem_cons.mpr ⟨am_k622, List.forall_mem_cons.mpr ⟨am_k623, List.forall_mem_cons.mpr ⟨am_k624, List.forall_mem_cons.mpr ⟨am_k625, List.forall_mem_cons.mpr ⟨am_k626, List.forall_mem_cons.mpr ⟨am_k627, List.forall_mem_cons.mpr ⟨am_k628, List.forall_mem_cons.mpr ⟨am_k629, List.forall_mem_cons.mpr ⟨am_k630, List.forall_mem_cons.mpr ⟨am_k631, List.forall_mem_cons.mpr ⟨am_k632, List.forall_mem_cons.mpr ⟨am_k633, List.forall_mem_cons.mpr ⟨am_k634, List.forall_mem_cons.mpr ⟨am_k635, fun _ h => absurd h List.not_mem_nil⟩⟩⟩⟩⟩⟩⟩⟩⟩⟩⟩⟩⟩⟩⟩⟩⟩⟩⟩⟩⟩⟩⟩
set_option maxRecDepth 100000 in
theorem am_sT_in : ∀ e ∈ am_sT, Cond.stringRef (am_ON e.1) e.2.1 (am_strL.getD e.2.2 "") ∈ lw_tbl := List.forall_mem_cons.mpr ⟨am_k636, List.forall_mem_cons.mpr ⟨am_k637, List.forall_mem_cons.mpr ⟨am_k638, List.forall_mem_cons.mpr ⟨am_k639, List.forall_mem_cons.mpr ⟨am_k640, List.forall_mem_cons.mpr ⟨am_k641, List.forall_mem_cons.mpr ⟨am_k642, List.forall_mem_cons.mpr ⟨am_k643, List.forall_mem_cons.mpr ⟨am_k644, List.forall_mem_cons.mpr ⟨am_k645, List.forall_mem_cons.mpr ⟨am_k646, List.forall_mem_cons.mpr ⟨am_k647, List.forall_mem_cons.mpr ⟨am_k648, List.forall_mem_cons.mpr ⟨am_k649, fun _ h => absurd h List.not_mem_nil⟩⟩⟩⟩⟩⟩⟩⟩⟩⟩⟩⟩⟩⟩
set_option maxRecDepth 100000 in
theorem am_gT_in : ∀ e ∈ am_gT, (if e.2.2 = 6 then Cond.fieldLink (am_ON e.1) e.2.1 "java/lang/String" "COMPACT_STRINGS" "Z" else Cond.fieldLink (am_ON e.1) e.2.1 "jdk/internal/util/Preconditions" "SIOOBE_FORMATTER" "Ljava/util/function/BiFunction;") ∈ lw_tbl := List.forall_mem_cons.mpr ⟨am_k650, List.forall_mem_cons.mpr ⟨am_k651, fun _ h => absurd h List.not_mem_nil⟩⟩
def am_Ms : List Nat := [0, 1, 2, 3, 4, 5, 6, 7, 8, 9, 10, 11, 12, 13, 14, 15, 16, 17, 18, 19, 20, 21, 22, 23, 24, 25, 26, 27, 28, 29, 30, 31, 32, 33, 34, 35, 36, 37, 38, 39, 40, 41, 42, 43, 44, 45, 46, 47, 48, 49, 50, 51, 52, 53, 54, 55, 56, 57, 58, 59, 60, 61, 62, 63, 64, 65, 66, 67, 68, 69, 70, 71, 72, 73, 74, 75, 76, 77, 78, 79, 80, 81, 82, 83, 84, 85, 86, 87, 88, 89, 90, 91, 92, 93, 94, 95, 96, 97, 98, 99, 100, 101, 102, 103, 104, 105, 106, 107, 108, 109, 110, 111, 112, 113, 114, 115, 116, 117, 118, 119, 120, 121, 122, 123, 124, 125, 126, 127, 128, 129, 130, 131, 132, 133, 134, 135, 136, 137, 138, 139, 140, 141, 142, 143, 144, 145, 146, 147, 148, 149, 150, 151, 152, 153, 154, 155, 156, 157, 158, 159, 160, 161, 162, 163, 164, 165, 166, 167, 168, 169, 170, 171, 172, 173, 174, 175, 176, 177, 178, 179, 180, 181, 182, 183, 184, 185, 186, 187, 188, 189, 190, 191, 192, 193, 194, 195, 196, 197, 198, 199, 200, 201, 202, 203, 204, 205, 206, 207, 208, 209, 210, 211, 212, 213, 214, 215, 216, 217, 218, 219, 220, 221, 222, 223, 224, 225, 226, 227, 228, 229, 230, 231, 232, 233, 234, 235, 236, 237, 238, 239, 240, 241, 242, 243, 244, 245, 246, 247, 248, 249, 250, 251, 252, 253, 254, 255, 256, 257, 258, 259, 260, 261, 262, 263, 264, 265, 266, 267, 268, 269, 270, 271, 272, 273, 274, 275, 276, 277, 278, 279, 280, 281, 282, 283, 284, 285, 286, 287, 288, 289, 290, 291, 292, 293, 294, 295, 296, 297, 298, 299, 300, 301, 302, 303, 304, 305, 306, 307, 308, 309, 310, 311, 312]
theorem am_Ms_eq : am_Ms = List.range 313 := by decide +kernel
set_option maxRecDepth 100000 in
theorem am_w0_in : ∀ e ∈ am_Ms, Cond.code (am_mN e) (am_mB e) (am_mL e) (am_mR e) ∈ lw_tbl := List.forall_mem_cons.mpr ⟨am_k652, List.forall_mem_cons.mpr ⟨am_k654, List.forall_mem_cons.mpr ⟨am_k657, List.forall_mem_cons.mpr ⟨am_k660, List.forall_mem_cons.mpr ⟨am_k663, List.forall_mem_cons.mpr ⟨am_k666, List.forall_mem_cons.mpr ⟨am_k669, List.forall_mem_cons.mpr ⟨am_k672, List.forall_mem_cons.mpr ⟨am_k675, List.forall_mem_cons.mpr ⟨am_k678, List.forall_mem_cons.mpr ⟨am_k681, List.forall_mem_cons.mpr ⟨am_k684, List.forall_mem_cons.mpr ⟨am_k687, List.forall_mem_cons.mpr ⟨am_k689, List.forall_mem_cons.mpr ⟨am_k692, List.forall_mem_cons.mpr ⟨am_k695, List.forall_mem_cons.mpr ⟨am_k698, List.forall_mem_cons.mpr ⟨am_k701, List.forall_mem_cons.mpr ⟨am_k704, List.forall_mem_cons.mpr ⟨am_k707, List.forall_mem_cons.mpr ⟨am_k709, List.forall_mem_cons.mpr ⟨am_k712, List.forall_mem_cons.mpr ⟨am_k715, List.forall_mem_cons.mpr ⟨am_k717, List.forall_mem_cons.mpr ⟨am_k720, List.forall_mem_cons.mpr ⟨am_k722, List.forall_mem_cons.mpr ⟨am_k724, List.forall_mem_cons.mpr ⟨am_k726, List.forall_mem_cons.mpr ⟨am_k729, List.forall_mem_cons.mpr ⟨am_k732, List.forall_mem_cons.mpr ⟨am_k735, List.forall_mem_cons.mpr ⟨am_k737, List.forall_mem_cons.mpr ⟨am_k740, List.forall_mem_cons.mpr ⟨am_k743, List.forall_mem_cons.mpr ⟨am_k746, List.forall_mem_cons.mpr ⟨am_k749, List.forall_mem_cons.mpr ⟨am_k752, List.forall_mem_cons.mpr ⟨am_k755, List.forall_mem_cons.mpr ⟨am_k758, List.forall_mem_cons.mpr ⟨am_k761, List.forall_mem_cons.mpr ⟨am_k764, List.forall_mem_cons.mpr ⟨am_k767, List.forall_mem_cons.mpr ⟨am_k770, List.forall_mem_cons.mpr ⟨am_k773, List.forall_mem_cons.mpr ⟨am_k776, List.forall_mem_cons.mpr ⟨am_k779, List.forall_mem_cons.mpr ⟨am_k782, List.forall_mem_cons.mpr ⟨am_k785, List.forall_mem_cons.mpr ⟨am_k788, List.forall_mem_cons.mpr ⟨am_k791, List.forall_mem_cons.mpr ⟨am_k794, List.forall_mem_cons.mpr ⟨am_k797, List.forall_mem_cons.mpr ⟨am_k800, List.forall_mem_cons.mpr ⟨am_k803, List.forall_mem_cons.mpr ⟨am_k806, List.forall_mem_cons.mpr ⟨am_k809, List.forall_mem_cons.mpr ⟨am_k812, List.forall_mem_cons.mpr ⟨am_k814, List.forall_mem_cons.mpr ⟨am_k817, List.forall_mem_cons.mpr ⟨am_k820, List.forall_mem_cons.mpr ⟨am_k823, List.forall_mem_cons.mpr ⟨am_k826, List.forall_mem_cons.mpr ⟨am_k829, List.forall_mem_cons.mpr ⟨am_k832, List.forall_mem_cons.mpr ⟨am_k835, List.forall_mem_cons.mpr ⟨am_k838, List.forall_mem_cons.mpr ⟨am_k841, List.forall_mem_cons.mpr ⟨am_k844, List.forall_mem_cons.mpr ⟨am_k847, List.forall_mem_cons.mpr ⟨am_k850, List.forall_mem_cons.mpr ⟨am_k853, List.forall_mem_cons.mpr ⟨am_k856, List.forall_mem_cons.mpr ⟨am_k859, List.forall_mem_cons.mpr ⟨am_k862, List.forall_mem_cons.mpr ⟨am_k865, List.forall_mem_cons.mpr ⟨am_k868, List.forall_mem_cons.mpr ⟨am_k871, List.forall_mem_cons.mpr ⟨am_k874, List.forall_mem_cons.mpr ⟨am_k877, List.forall_mem_cons.mpr ⟨am_k880, List.forall_mem_cons.mpr ⟨am_k883, List.forall_mem_cons.mpr ⟨am_k886, List.forall_mem_cons.mpr ⟨am_k889, List.forall_mem_cons.mpr ⟨am_k892, List.forall_mem_cons.mpr ⟨am_k895, List.forall_mem_cons.mpr ⟨am_k898, List.forall_mem_cons.mpr ⟨am_k901, List.forall_mem_cons.mpr ⟨am_k904, List.forall_mem_cons.mpr ⟨am_k907, List.forall_mem_cons.mpr ⟨am_k910, List.forall_mem_cons.mpr ⟨am_k913, List.forall_mem_cons.mpr ⟨am_k916, List.forall_mem_cons.mpr ⟨am_k919, List.forall_mem_cons.mpr ⟨am_k922, List.forall_mem_cons.mpr ⟨am_k925, List.forall_mem_cons.mpr ⟨am_k928, List.forall_mem_cons.mpr ⟨am_k931, List.forall_mem_cons.mpr ⟨am_k934, List.forall_mem_cons.mpr ⟨am_k937, List.forall_mem_cons.mpr ⟨am_k940, List.forall_mem_cons.mpr ⟨am_k943, List.forall_mem_cons.mpr ⟨am_k945, List.forall_mem_cons.mpr ⟨am_k948, List.forall_mem_cons.mpr ⟨am_k951, List.forall_mem_cons.mpr ⟨am_k954, List.forall_mem_cons.mpr ⟨am_k957, List.forall_mem_cons.mpr ⟨am_k960, List.forall_mem_cons.mpr ⟨am_k962, List.forall_mem_cons.mpr ⟨am_k965, List.forall_mem_cons.mpr ⟨am_k968, List.forall_mem_cons.mpr ⟨am_k971, List.forall_mem_cons.mpr ⟨am_k974, List.forall_mem_cons.mpr ⟨am_k977, List.forall_mem_cons.mpr ⟨am_k980, List.forall_mem_cons.mpr ⟨am_k983, List.forall_mem_cons.mpr ⟨am_k986, List.forall_mem_cons.mpr ⟨am_k989, List.forall_mem_cons.mpr ⟨am_k992, List.forall_mem_cons.mpr ⟨am_k995, List.forall_mem_cons.mpr ⟨am_k998, List.forall_mem_cons.mpr ⟨am_k1000, List.forall_mem_cons.mpr ⟨am_k1003, List.forall_mem_cons.mpr ⟨am_k1006, List.forall_mem_cons.mpr ⟨am_k1009, List.forall_mem_cons.mpr ⟨am_k1012, List.forall_mem_cons.mpr ⟨am_k1015, List.forall_mem_cons.mpr ⟨am_k1018, List.forall_mem_cons.mpr ⟨am_k1021, List.forall_mem_cons.mpr ⟨am_k1024, List.forall_mem_cons.mpr ⟨am_k1027, List.forall_mem_cons.mpr ⟨am_k1030, List.forall_mem_cons.mpr ⟨am_k1033, List.forall_mem_cons.mpr ⟨am_k1036, List.forall_mem_cons.mpr ⟨am_k1039, List.forall_mem_cons.mpr ⟨am_k1042, List.forall_mem_cons.mpr ⟨am_k1045, List.forall_mem_cons.mpr ⟨am_k1048, List.forall_mem_cons.mpr ⟨am_k1051, List.forall_mem_cons.mpr ⟨am_k1054, List.forall_mem_cons.mpr ⟨am_k1057, List.forall_mem_cons.mpr ⟨am_k1059, List.forall_mem_cons.mpr ⟨am_k1061, List.forall_mem_cons.mpr ⟨am_k1063, List.forall_mem_cons.mpr ⟨am_k1065, List.forall_mem_cons.mpr ⟨am_k1068, List.forall_mem_cons.mpr ⟨am_k1071, List.forall_mem_cons.mpr ⟨am_k1074, List.forall_mem_cons.mpr ⟨am_k1077, List.forall_mem_cons.mpr ⟨am_k1080, List.forall_mem_cons.mpr ⟨am_k1083, List.forall_mem_cons.mpr ⟨am_k1085, List.forall_mem_cons.mpr ⟨am_k1088, List.forall_mem_cons.mpr ⟨am_k1091, List.forall_mem_cons.mpr ⟨am_k1094, List.forall_mem_cons.mpr ⟨am_k1097, List.forall_mem_cons.mpr ⟨am_k1100, List.forall_mem_cons.mpr ⟨am_k1103, List.forall_mem_cons.mpr ⟨am_k1106, List.forall_mem_cons.mpr ⟨am_k1108, List.forall_mem_cons.mpr ⟨am_k1111, List.forall_mem_cons.mpr ⟨am_k1114, List.forall_mem_cons.mpr ⟨am_k1116, List.forall_mem_cons.mpr ⟨am_k1118, List.forall_mem_cons.mpr ⟨am_k1120, List.forall_mem_cons.mpr ⟨am_k1123, List.forall_mem_cons.mpr ⟨am_k1126, List.forall_mem_cons.mpr ⟨am_k1129, List.forall_mem_cons.mpr ⟨am_k1132, List.forall_mem_cons.mpr ⟨am_k1135, List.forall_mem_cons.mpr ⟨am_k1138, List.forall_mem_cons.mpr ⟨am_k1141, List.forall_mem_cons.mpr ⟨am_k1144, List.forall_mem_cons.mpr ⟨am_k1147, List.forall_mem_cons.mpr ⟨am_k1150, List.forall_mem_cons.mpr ⟨am_k1153, List.forall_mem_cons.mpr ⟨am_k1156, List.forall_mem_cons.mpr ⟨am_k1159, List.forall_mem_cons.mpr ⟨am_k1162, List.forall_mem_cons.mpr ⟨am_k1165, List.forall_mem_cons.mpr ⟨am_k1168, List.forall_mem_cons.mpr ⟨am_k1171, List.forall_mem_cons.mpr ⟨am_k1174, List.forall_mem_cons.mpr ⟨am_k1177, List.forall_mem_cons.mpr ⟨am_k1180, List.forall_mem_cons.mpr ⟨am_k1183, List.forall_mem_cons.mpr ⟨am_k1186, List.forall_mem_cons.mpr ⟨am_k1189, List.forall_mem_cons.mpr ⟨am_k1192, List.forall_mem_cons.mpr ⟨am_k1195, List.forall_mem_cons.mpr ⟨am_k1198, List.forall_mem_cons.mpr ⟨am_k1201, List.forall_mem_cons.mpr ⟨am_k1204, List.forall_mem_cons.mpr ⟨am_k1207, List.forall_mem_cons.mpr ⟨am_k1210, List.forall_mem_cons.mpr ⟨am_k1213, List.forall_mem_cons.mpr ⟨am_k1216, List.forall_mem_cons.mpr ⟨am_k1219, List.forall_mem_cons.mpr ⟨am_k1222, List.forall_mem_cons.mpr ⟨am_k1225, List.forall_mem_cons.mpr ⟨am_k1228, List.forall_mem_cons.mpr ⟨am_k1231, List.forall_mem_cons.mpr ⟨am_k1234, List.forall_mem_cons.mpr ⟨am_k1237, List.forall_mem_cons.mpr ⟨am_k1240, List.forall_mem_cons.mpr ⟨am_k1243, List.forall_mem_cons.mpr ⟨am_k1246, List.forall_mem_cons.mpr ⟨am_k1249, List.forall_mem_cons.mpr ⟨am_k1252, List.forall_mem_cons.mpr ⟨am_k1254, List.forall_mem_cons.mpr ⟨am_k1256, List.forall_mem_cons.mpr ⟨am_k1258, List.forall_mem_cons.mpr ⟨am_k1260, List.forall_mem_cons.mpr ⟨am_k1262, List.forall_mem_cons.mpr ⟨am_k1264, List.forall_mem_cons.mpr ⟨am_k1266, List.forall_mem_cons.mpr ⟨am_k1269, List.forall_mem_cons.mpr ⟨am_k1272, List.forall_mem_cons.mpr ⟨am_k1275, List.forall_mem_cons.mpr ⟨am_k1278, List.forall_mem_cons.mpr ⟨am_k1281, List.forall_mem_cons.mpr ⟨am_k1284, List.forall_mem_cons.mpr ⟨am_k1287, List.forall_mem_cons.mpr ⟨am_k1290, List.forall_mem_cons.mpr ⟨am_k1293, List.forall_mem_cons.mpr ⟨am_k1296, List.forall_mem_cons.mpr ⟨am_k1299, List.forall_mem_cons.mpr ⟨am_k1302, List.forall_mem_cons.mpr ⟨am_k1305, List.forall_mem_cons.mpr ⟨am_k1308, List.forall_mem_cons.mpr ⟨am_k1311, List.forall_mem_cons.mpr ⟨am_k1314, List.forall_mem_cons.mpr ⟨am_k1317, List.forall_mem_cons.mpr ⟨am_k1320, List.forall_mem_cons.mpr ⟨am_k1323, List.forall_mem_cons.mpr ⟨am_k1326, List.forall_mem_cons.mpr ⟨am_k1329, List.forall_mem_cons.mpr ⟨am_k1332, List.forall_mem_cons.mpr ⟨am_k1334, List.forall_mem_cons.mpr ⟨am_k1337, List.forall_mem_cons.mpr ⟨am_k1340, List.forall_mem_cons.mpr ⟨am_k1343, List.forall_mem_cons.mpr ⟨am_k1346, List.forall_mem_cons.mpr ⟨am_k1349, List.forall_mem_cons.mpr ⟨am_k1352, List.forall_mem_cons.mpr ⟨am_k1355, List.forall_mem_cons.mpr ⟨am_k1358, List.forall_mem_cons.mpr ⟨am_k1361, List.forall_mem_cons.mpr ⟨am_k1364, List.forall_mem_cons.mpr ⟨am_k1367, List.forall_mem_cons.mpr ⟨am_k1370, List.forall_mem_cons.mpr ⟨am_k1373, List.forall_mem_cons.mpr ⟨am_k1376, List.forall_mem_cons.mpr ⟨am_k1379, List.forall_mem_cons.mpr ⟨am_k1382, List.forall_mem_cons.mpr ⟨am_k1385, List.forall_mem_cons.mpr ⟨am_k1388, List.forall_mem_cons.mpr ⟨am_k1391, List.forall_mem_cons.mpr ⟨am_k1394, List.forall_mem_cons.mpr ⟨am_k1397, List.forall_mem_cons.mpr ⟨am_k1400, List.forall_mem_cons.mpr ⟨am_k1403, List.forall_mem_cons.mpr ⟨am_k1406, List.forall_mem_cons.mpr ⟨am_k1409, List.forall_mem_cons.mpr ⟨am_k1412, List.forall_mem_cons.mpr ⟨am_k1415, List.forall_mem_cons.mpr ⟨am_k1418, List.forall_mem_cons.mpr ⟨am_k1421, List.forall_mem_cons.mpr ⟨am_k1424, List.forall_mem_cons.mpr ⟨am_k1427, List.forall_mem_cons.mpr ⟨am_k1430, List.forall_mem_cons.mpr ⟨am_k1433, List.forall_mem_cons.mpr ⟨am_k1436, List.forall_mem_cons.mpr ⟨am_k1439, List.forall_mem_cons.mpr ⟨am_k1442, List.forall_mem_cons.mpr ⟨am_k1445, List.forall_mem_cons.mpr ⟨am_k1448, List.forall_mem_cons.mpr ⟨am_k1451, List.forall_mem_cons.mpr ⟨am_k1454, List.forall_mem_cons.mpr ⟨am_k1457, List.forall_mem_cons.mpr ⟨am_k1460, List.forall_mem_cons.mpr ⟨am_k1463, List.forall_mem_cons.mpr ⟨am_k1466, List.forall_mem_cons.mpr ⟨am_k1469, List.forall_mem_cons.mpr ⟨am_k1472, List.forall_mem_cons.mpr ⟨am_k1475, List.forall_mem_cons.mpr ⟨am_k1478, List.forall_mem_cons.mpr ⟨am_k1481, List.forall_mem_cons.mpr ⟨am_k1484, List.forall_mem_cons.mpr ⟨am_k1487, List.forall_mem_cons.mpr ⟨am_k1490, List.forall_mem_cons.mpr ⟨am_k1493, List.forall_mem_cons.mpr ⟨am_k1496, List.forall_mem_cons.mpr ⟨am_k1499, List.forall_mem_cons.mpr ⟨am_k1502, List.forall_mem_cons.mpr ⟨am_k1505, List.forall_mem_cons.mpr ⟨am_k1508, List.forall_mem_cons.mpr ⟨am_k1511, List.forall_mem_cons.mpr ⟨am_k1514, List.forall_mem_cons.mpr ⟨am_k1517, List.forall_mem_cons.mpr ⟨am_k1520, List.forall_mem_cons.mpr ⟨am_k1523, List.forall_mem_cons.mpr ⟨am_k1526, List.forall_mem_cons.mpr ⟨am_k1529, List.forall_mem_cons.mpr ⟨am_k1532, List.forall_mem_cons.mpr ⟨am_k1534, List.forall_mem_cons.mpr ⟨am_k1537, List.forall_mem_cons.mpr ⟨am_k1540, List.forall_mem_cons.mpr ⟨am_k1543, List.forall_mem_cons.mpr ⟨am_k1546, List.forall_mem_cons.mpr ⟨am_k1548, List.forall_mem_cons.mpr ⟨am_k1550, List.forall_mem_cons.mpr ⟨am_k1552, List.forall_mem_cons.mpr ⟨am_k1554, fun _ h => absurd h List.not_mem_nil⟩⟩⟩⟩⟩⟩⟩⟩⟩⟩⟩⟩⟩⟩⟩⟩⟩⟩⟩⟩⟩⟩⟩⟩⟩⟩⟩⟩⟩⟩⟩⟩⟩⟩⟩⟩⟩⟩⟩⟩⟩⟩⟩⟩⟩⟩⟩⟩⟩⟩⟩⟩⟩⟩⟩⟩⟩⟩⟩⟩⟩⟩⟩⟩⟩⟩⟩⟩⟩⟩⟩⟩⟩⟩⟩⟩⟩⟩⟩⟩⟩⟩⟩⟩⟩⟩⟩⟩⟩⟩⟩⟩⟩⟩⟩⟩⟩⟩⟩⟩⟩⟩⟩⟩⟩⟩⟩⟩⟩⟩⟩⟩⟩⟩⟩⟩⟩⟩⟩⟩⟩⟩⟩⟩⟩⟩⟩⟩⟩⟩⟩⟩⟩⟩⟩⟩⟩⟩⟩⟩⟩⟩⟩⟩⟩⟩⟩⟩⟩⟩⟩⟩⟩⟩⟩⟩⟩⟩⟩⟩⟩⟩⟩⟩⟩⟩⟩⟩⟩⟩⟩⟩⟩⟩⟩⟩⟩⟩⟩⟩⟩⟩⟩⟩⟩⟩⟩⟩⟩⟩⟩⟩⟩⟩⟩⟩⟩⟩⟩⟩⟩⟩⟩⟩⟩⟩⟩⟩⟩⟩⟩⟩⟩⟩⟩⟩⟩⟩⟩⟩⟩⟩⟩⟩⟩⟩⟩⟩⟩⟩⟩⟩⟩⟩⟩⟩⟩⟩⟩⟩⟩⟩⟩⟩⟩⟩⟩⟩⟩⟩⟩⟩⟩⟩⟩⟩⟩⟩⟩⟩⟩⟩⟩⟩⟩⟩⟩⟩⟩⟩⟩⟩⟩⟩⟩⟩⟩⟩⟩⟩⟩⟩⟩⟩⟩⟩⟩⟩⟩⟩⟩⟩⟩⟩⟩⟩⟩⟩⟩⟩⟩⟩⟩⟩⟩⟩⟩⟩⟩⟩⟩⟩⟩
set_option maxRecDepth 100000 in
theorem am_w1_in : ∀ e ∈ am_Ms, Cond.initialized (am_mN e).cls ∈ lw_tbl := List.forall_mem_cons.mpr ⟨am_k1561, List.forall_mem_cons.mpr ⟨am_k1561, List.forall_mem_cons.mpr ⟨am_k1561, List.forall_mem_cons.mpr ⟨am_k1561, List.forall_mem_cons.mpr ⟨am_k1561, List.forall_mem_cons.mpr ⟨am_k1561, List.forall_mem_cons.mpr ⟨am_k1561, List.forall_mem_cons.mpr ⟨am_k1561, List.forall_mem_cons.mpr ⟨am_k1561, List.forall_mem_cons.mpr ⟨am_k1561, List.forall_mem_cons.mpr ⟨am_k1561, List.forall_mem_cons.mpr ⟨am_k1561, List.forall_mem_cons.mpr ⟨am_k1562, List.forall_mem_cons.mpr ⟨am_k1562, List.forall_mem_cons.mpr ⟨am_k1562, List.forall_mem_cons.mpr ⟨am_k1562, List.forall_mem_cons.mpr ⟨am_k1562, List.forall_mem_cons.mpr ⟨am_k1562, List.forall_mem_cons.mpr ⟨am_k1562, List.forall_mem_cons.mpr ⟨am_k1562, List.forall_mem_cons.mpr ⟨am_k1562, List.forall_mem_cons.mpr ⟨am_k1562, List.forall_mem_cons.mpr ⟨am_k1566, List.forall_mem_cons.mpr ⟨am_k1566, List.forall_mem_cons.mpr ⟨am_k1566, List.forall_mem_cons.mpr ⟨am_k1566, List.forall_mem_cons.mpr ⟨am_k1566, List.forall_mem_cons.mpr ⟨am_k1566, List.forall_mem_cons.mpr ⟨am_k1566, List.forall_mem_cons.mpr ⟨am_k1566, List.forall_mem_cons.mpr ⟨am_k1567, List.forall_mem_cons.mpr ⟨am_k1567, List.forall_mem_cons.mpr ⟨am_k1567, List.forall_mem_cons.mpr ⟨am_k1567, List.forall_mem_cons.mpr ⟨am_k1567, List.forall_mem_cons.mpr ⟨am_k1567, List.forall_mem_cons.mpr ⟨am_k1567, List.forall_mem_cons.mpr ⟨am_k1567, List.forall_mem_cons.mpr ⟨am_k1567, List.forall_mem_cons.mpr ⟨am_k1567, List.forall_mem_cons.mpr ⟨am_k1567, List.forall_mem_cons.mpr ⟨am_k1567, List.forall_mem_cons.mpr ⟨am_k1567, List.forall_mem_cons.mpr ⟨am_k1567, List.forall_mem_cons.mpr ⟨am_k1567, List.forall_mem_cons.mpr ⟨am_k1567, List.forall_mem_cons.mpr ⟨am_k1567, List.forall_mem_cons.mpr ⟨am_k1567, List.forall_mem_cons.mpr ⟨am_k1567, List.forall_mem_cons.mpr ⟨am_k1567, List.forall_mem_cons.mpr ⟨am_k1567, List.forall_mem_cons.mpr ⟨am_k1567, List.forall_mem_cons.mpr ⟨am_k1567, List.forall_mem_cons.mpr ⟨am_k1567, List.forall_mem_cons.mpr ⟨am_k1567, List.forall_mem_cons.mpr ⟨am_k1567, List.forall_mem_cons.mpr ⟨am_k1568, List.forall_mem_cons.mpr ⟨am_k1568, List.forall_mem_cons.mpr ⟨am_k1568, List.forall_mem_cons.mpr ⟨am_k1568, List.forall_mem_cons.mpr ⟨am_k1568, List.forall_mem_cons.mpr ⟨am_k1568, List.forall_mem_cons.mpr ⟨am_k1568, List.forall_mem_cons.mpr ⟨am_k1568, List.forall_mem_cons.mpr ⟨am_k1568, List.forall_mem_cons.mpr ⟨am_k1568, List.forall_mem_cons.mpr ⟨am_k1568, List.forall_mem_cons.mpr ⟨am_k1568, List.forall_mem_cons.mpr ⟨am_k1568, List.forall_mem_cons.mpr ⟨am_k1568, List.forall_mem_cons.mpr ⟨am_k1568, List.forall_mem_cons.mpr ⟨am_k1568, List.forall_mem_cons.mpr ⟨am_k1568, List.forall_mem_cons.mpr ⟨am_k1568, List.forall_mem_cons.mpr ⟨am_k1568, List.forall_mem_cons.mpr ⟨am_k1568, List.forall_mem_cons.mpr ⟨am_k1568, List.forall_mem_cons.mpr ⟨am_k1568, List.forall_mem_cons.mpr ⟨am_k1568, List.forall_mem_cons.mpr ⟨am_k1568, List.forall_mem_cons.mpr ⟨am_k1568, List.forall_mem_cons.mpr ⟨am_k1568, List.forall_mem_cons.mpr ⟨am_k1568, List.forall_mem_cons.mpr ⟨am_k1568, List.forall_mem_cons.mpr ⟨am_k1568, List.forall_mem_cons.mpr ⟨am_k1568, List.forall_mem_cons.mpr ⟨am_k1568, List.forall_mem_cons.mpr ⟨am_k1568, List.forall_mem_cons.mpr ⟨am_k1568, List.forall_mem_cons.mpr ⟨am_k1568, List.forall_mem_cons.mpr ⟨am_k1568, List.forall_mem_cons.mpr ⟨am_k1568, List.forall_mem_cons.mpr ⟨am_k1568, List.forall_mem_cons.mpr ⟨am_k1568, List.forall_mem_cons.mpr ⟨am_k1568, List.forall_mem_cons.mpr ⟨am_k1568, List.forall_mem_cons.mpr ⟨am_k1568, List.forall_mem_cons.mpr ⟨am_k1568, List.forall_mem_cons.mpr ⟨am_k1568, List.forall_mem_cons.mpr ⟨am_k1568, List.forall_mem_cons.mpr ⟨am_k1569, List.forall_mem_cons.mpr ⟨am_k1569, List.forall_mem_cons.mpr ⟨am_k1569, List.forall_mem_cons.mpr ⟨am_k1569, List.forall_mem_cons.mpr ⟨am_k1569, List.forall_mem_cons.mpr ⟨am_k1569, List.forall_mem_cons.mpr ⟨am_k1570, List.forall_mem_cons.mpr ⟨am_k1570, List.forall_mem_cons.mpr ⟨am_k1570, List.forall_mem_cons.mpr ⟨am_k1570, List.forall_mem_cons.mpr ⟨am_k1570, List.forall_mem_cons.mpr ⟨am_k1570, List.forall_mem_cons.mpr ⟨am_k1570, List.forall_mem_cons.mpr ⟨am_k1570, List.forall_mem_cons.mpr ⟨am_k1570, List.forall_mem_cons.mpr ⟨am_k1570, List.forall_mem_cons.mpr ⟨am_k1570, List.forall_mem_cons.mpr ⟨am_k1570, List.forall_mem_cons.mpr ⟨am_k1570, List.forall_mem_cons.mpr ⟨am_k1571, List.forall_mem_cons.mpr ⟨am_k1571, List.forall_mem_cons.mpr ⟨am_k1571, List.forall_mem_cons.mpr ⟨am_k1571, List.forall_mem_cons.mpr ⟨am_k1571, List.forall_mem_cons.mpr ⟨am_k1571, List.forall_mem_cons.mpr ⟨am_k1571, List.forall_mem_cons.mpr ⟨am_k1571, List.forall_mem_cons.mpr ⟨am_k1571, List.forall_mem_cons.mpr ⟨am_k1571, List.forall_mem_cons.mpr ⟨am_k1571, List.forall_mem_cons.mpr ⟨am_k1571, List.forall_mem_cons.mpr ⟨am_k1571, List.forall_mem_cons.mpr ⟨am_k1571, List.forall_mem_cons.mpr ⟨am_k1571, List.forall_mem_cons.mpr ⟨am_k1571, List.forall_mem_cons.mpr ⟨am_k1571, List.forall_mem_cons.mpr ⟨am_k1571, List.forall_mem_cons.mpr ⟨am_k1571, List.forall_mem_cons.mpr ⟨am_k1571, List.forall_mem_cons.mpr ⟨am_k1571, List.forall_mem_cons.mpr ⟨am_k1571, List.forall_mem_cons.mpr ⟨am_k1571, List.forall_mem_cons.mpr ⟨am_k1572, List.forall_mem_cons.mpr ⟨am_k1572, List.forall_mem_cons.mpr ⟨am_k1572, List.forall_mem_cons.mpr ⟨am_k1572, List.forall_mem_cons.mpr ⟨am_k1572, List.forall_mem_cons.mpr ⟨am_k1572, List.forall_mem_cons.mpr ⟨am_k1572, List.forall_mem_cons.mpr ⟨am_k1573, List.forall_mem_cons.mpr ⟨am_k1573, List.forall_mem_cons.mpr ⟨am_k1573, List.forall_mem_cons.mpr ⟨am_k1573, List.forall_mem_cons.mpr ⟨am_k1573, List.forall_mem_cons.mpr ⟨am_k1573, List.forall_mem_cons.mpr ⟨am_k1573, List.forall_mem_cons.mpr ⟨am_k1573, List.forall_mem_cons.mpr ⟨am_k1563, List.forall_mem_cons.mpr ⟨am_k1563, List.forall_mem_cons.mpr ⟨am_k1563, List.forall_mem_cons.mpr ⟨am_k1563, List.forall_mem_cons.mpr ⟨am_k1563, List.forall_mem_cons.mpr ⟨am_k1564, List.forall_mem_cons.mpr ⟨am_k1564, List.forall_mem_cons.mpr ⟨am_k1564, List.forall_mem_cons.mpr ⟨am_k1564, List.forall_mem_cons.mpr ⟨am_k1564, List.forall_mem_cons.mpr ⟨am_k1564, List.forall_mem_cons.mpr ⟨am_k1564, List.forall_mem_cons.mpr ⟨am_k1564, List.forall_mem_cons.mpr ⟨am_k1564, List.forall_mem_cons.mpr ⟨am_k1564, List.forall_mem_cons.mpr ⟨am_k1564, List.forall_mem_cons.mpr ⟨am_k1564, List.forall_mem_cons.mpr ⟨am_k1564, List.forall_mem_cons.mpr ⟨am_k1564, List.forall_mem_cons.mpr ⟨am_k1564, List.forall_mem_cons.mpr ⟨am_k1564, List.forall_mem_cons.mpr ⟨am_k1564, List.forall_mem_cons.mpr ⟨am_k1564, List.forall_mem_cons.mpr ⟨am_k1564, List.forall_mem_cons.mpr ⟨am_k1564, List.forall_mem_cons.mpr ⟨am_k1564, List.forall_mem_cons.mpr ⟨am_k1564, List.forall_mem_cons.mpr ⟨am_k1564, List.forall_mem_cons.mpr ⟨am_k1564, List.forall_mem_cons.mpr ⟨am_k1564, List.forall_mem_cons.mpr ⟨am_k1564, List.forall_mem_cons.mpr ⟨am_k1564, List.forall_mem_cons.mpr ⟨am_k1564, List.forall_mem_cons.mpr ⟨am_k1564, List.forall_mem_cons.mpr ⟨am_k1564, List.forall_mem_cons.mpr ⟨am_k1564, List.forall_mem_cons.mpr ⟨am_k1564, List.forall_mem_cons.mpr ⟨am_k1564, List.forall_mem_cons.mpr ⟨am_k1564, List.forall_mem_cons.mpr ⟨am_k1564, List.forall_mem_cons.mpr ⟨am_k1564, List.forall_mem_cons.mpr ⟨am_k1564, List.forall_mem_cons.mpr ⟨am_k1564, List.forall_mem_cons.mpr ⟨am_k1564, List.forall_mem_cons.mpr ⟨am_k1564, List.forall_mem_cons.mpr ⟨am_k1564, List.forall_mem_cons.mpr ⟨am_k1564, List.forall_mem_cons.mpr ⟨am_k1564, List.forall_mem_cons.mpr ⟨am_k1564, List.forall_mem_cons.mpr ⟨am_k1564, List.forall_mem_cons.mpr ⟨am_k1564, List.forall_mem_cons.mpr ⟨am_k1564, List.forall_mem_cons.mpr ⟨am_k1564, List.forall_mem_cons.mpr ⟨am_k1564, List.forall_mem_cons.mpr ⟨am_k1564, List.forall_mem_cons.mpr ⟨am_k1565, List.forall_mem_cons.mpr ⟨am_k1565, List.forall_mem_cons.mpr ⟨am_k1565, List.forall_mem_cons.mpr ⟨am_k1565, List.forall_mem_cons.mpr ⟨am_k1565, List.forall_mem_cons.mpr ⟨am_k1565, List.forall_mem_cons.mpr ⟨am_k1565, List.forall_mem_cons.mpr ⟨am_k1565, List.forall_mem_cons.mpr ⟨am_k1565, List.forall_mem_cons.mpr ⟨am_k1565, List.forall_mem_cons.mpr ⟨am_k1565, List.forall_mem_cons.mpr ⟨am_k1565, List.forall_mem_cons.mpr ⟨am_k1565, List.forall_mem_cons.mpr ⟨am_k1565, List.forall_mem_cons.mpr ⟨am_k1565, List.forall_mem_cons.mpr ⟨am_k1565, List.forall_mem_cons.mpr ⟨am_k1565, List.forall_mem_cons.mpr ⟨am_k1565, List.forall_mem_cons.mpr ⟨am_k1565, List.forall_mem_cons.mpr ⟨am_k1565, List.forall_mem_cons.mpr ⟨am_k1565, List.forall_mem_cons.mpr ⟨am_k1565, List.forall_mem_cons.mpr ⟨am_k1565, List.forall_mem_cons.mpr ⟨am_k1565, List.forall_mem_cons.mpr ⟨am_k1565, List.forall_mem_cons.mpr ⟨am_k1565, List.forall_mem_cons.mpr ⟨am_k1565, List.forall_mem_cons.mpr ⟨am_k1565, List.forall_mem_cons.mpr ⟨am_k1565, List.forall_mem_cons.mpr ⟨am_k1565, List.forall_mem_cons.mpr ⟨am_k1565, List.forall_mem_cons.mpr ⟨am_k1565, List.forall_mem_cons.mpr ⟨am_k1565, List.forall_mem_cons.mpr ⟨am_k1565, List.forall_mem_cons.mpr ⟨am_k1565, List.forall_mem_cons.mpr ⟨am_k1565, List.forall_mem_cons.mpr ⟨am_k1565, List.forall_mem_cons.mpr ⟨am_k1565, List.forall_mem_cons.mpr ⟨am_k1565, List.forall_mem_cons.mpr ⟨am_k1565, List.forall_mem_cons.mpr ⟨am_k1565, List.forall_mem_cons.mpr ⟨am_k1565, List.forall_mem_cons.mpr ⟨am_k1565, List.forall_mem_cons.mpr ⟨am_k1565, List.forall_mem_cons.mpr ⟨am_k1565, List.forall_mem_cons.mpr ⟨am_k1565, List.forall_mem_cons.mpr ⟨am_k1565, List.forall_mem_cons.mpr ⟨am_k1565, List.forall_mem_cons.mpr ⟨am_k1565, List.forall_mem_cons.mpr ⟨am_k1565, List.forall_mem_cons.mpr ⟨am_k1565, List.forall_mem_cons.mpr ⟨am_k1565, List.forall_mem_cons.mpr ⟨am_k1565, List.forall_mem_cons.mpr ⟨am_k1565, List.forall_mem_cons.mpr ⟨am_k1565, List.forall_mem_cons.mpr ⟨am_k1565, List.forall_mem_cons.mpr ⟨am_k1565, List.forall_mem_cons.mpr ⟨am_k1565, List.forall_mem_cons.mpr ⟨am_k1565, List.forall_mem_cons.mpr ⟨am_k1565, List.forall_mem_cons.mpr ⟨am_k1565, List.forall_mem_cons.mpr ⟨am_k1565, List.forall_mem_cons.mpr ⟨am_k1565, List.forall_mem_cons.mpr ⟨am_k1565, List.forall_mem_cons.mpr ⟨am_k1565, List.forall_mem_cons.mpr ⟨am_k1565, List.forall_mem_cons.mpr ⟨am_k1565, List.forall_mem_cons.mpr ⟨am_k1565, List.forall_mem_cons.mpr ⟨am_k1565, List.forall_mem_cons.mpr ⟨am_k1565, List.forall_mem_cons.mpr ⟨am_k1565, List.forall_mem_cons.mpr ⟨am_k1565, List.forall_mem_cons.mpr ⟨am_k1565, List.forall_mem_cons.mpr ⟨am_k1565, List.forall_mem_cons.mpr ⟨am_k1565, List.forall_mem_cons.mpr ⟨am_k1565, List.forall_mem_cons.mpr ⟨am_k1565, List.forall_mem_cons.mpr ⟨am_k1565, List.forall_mem_cons.mpr ⟨am_k1565, List.forall_mem_cons.mpr ⟨am_k1565, List.forall_mem_cons.mpr ⟨am_k1565, List.forall_mem_cons.mpr ⟨am_k1565, List.forall_mem_cons.mpr ⟨am_k1565, List.forall_mem_cons.mpr ⟨am_k1565, List.forall_mem_cons.mpr ⟨am_k1565, List.forall_mem_cons.mpr ⟨am_k1565, List.forall_mem_cons.mpr ⟨am_k1565, List.forall_mem_cons.mpr ⟨am_k1565, List.forall_mem_cons.mpr ⟨am_k1565, List.forall_mem_cons.mpr ⟨am_k1565, List.forall_mem_cons.mpr ⟨am_k1565, List.forall_mem_cons.mpr ⟨am_k1559, List.forall_mem_cons.mpr ⟨am_k1556, List.forall_mem_cons.mpr ⟨am_k1556, List.forall_mem_cons.mpr ⟨am_k1556, List.forall_mem_cons.mpr ⟨am_k1556, List.forall_mem_cons.mpr ⟨am_k1556, List.forall_mem_cons.mpr ⟨am_k1557, List.forall_mem_cons.mpr ⟨am_k1560, List.forall_mem_cons.mpr ⟨am_k1560, List.forall_mem_cons.mpr ⟨am_k1558, fun _ h => absurd h List.not_mem_nil⟩⟩⟩⟩⟩⟩⟩⟩⟩⟩⟩⟩⟩⟩⟩⟩⟩⟩⟩⟩⟩⟩⟩⟩⟩⟩⟩⟩⟩⟩⟩⟩⟩⟩⟩⟩⟩⟩⟩⟩⟩⟩⟩⟩⟩⟩⟩⟩⟩⟩⟩⟩⟩⟩⟩⟩⟩⟩⟩⟩⟩⟩⟩⟩⟩⟩⟩⟩⟩⟩⟩⟩⟩⟩⟩⟩⟩⟩⟩⟩⟩⟩⟩⟩⟩⟩⟩⟩⟩⟩⟩⟩⟩⟩⟩⟩⟩⟩⟩⟩⟩⟩⟩⟩⟩⟩⟩⟩⟩⟩⟩⟩⟩⟩⟩⟩⟩⟩⟩⟩⟩⟩⟩⟩⟩⟩⟩⟩⟩⟩⟩⟩⟩⟩⟩⟩⟩⟩⟩⟩⟩⟩⟩⟩⟩⟩⟩⟩⟩⟩⟩⟩⟩⟩⟩⟩⟩⟩⟩⟩⟩⟩⟩⟩⟩⟩⟩⟩⟩⟩⟩⟩⟩⟩⟩⟩⟩⟩⟩⟩⟩⟩⟩⟩⟩⟩⟩⟩⟩⟩⟩⟩⟩⟩⟩⟩⟩⟩⟩⟩⟩⟩⟩⟩⟩⟩⟩⟩⟩⟩⟩⟩⟩⟩⟩⟩⟩⟩⟩⟩⟩⟩⟩⟩⟩⟩⟩⟩⟩⟩⟩⟩⟩⟩⟩⟩⟩⟩⟩⟩⟩⟩⟩⟩⟩⟩⟩⟩⟩⟩⟩⟩⟩⟩⟩⟩⟩⟩⟩⟩⟩⟩⟩⟩⟩⟩⟩⟩⟩⟩⟩⟩⟩⟩⟩⟩⟩⟩⟩⟩⟩⟩⟩⟩⟩⟩⟩⟩⟩⟩⟩⟩⟩⟩⟩⟩⟩⟩⟩⟩⟩⟩⟩⟩⟩⟩⟩⟩⟩⟩⟩⟩⟩
set_option maxRecDepth 100000 in
theorem am_w2_in : ∀ e ∈ am_Ms, (if am_mF e = 1 then Cond.static (am_mN e) else Cond.instanceMethod (am_mN e)) ∈ lw_tbl := List.forall_mem_cons.mpr ⟨am_k653, List.forall_mem_cons.mpr ⟨am_k655, List.forall_mem_cons.mpr ⟨am_k658, List.forall_mem_cons.mpr ⟨am_k661, List.forall_mem_cons.mpr ⟨am_k664, List.forall_mem_cons.mpr ⟨am_k667, List.forall_mem_cons.mpr ⟨am_k670, List.forall_mem_cons.mpr ⟨am_k673, List.forall_mem_cons.mpr ⟨am_k676, List.forall_mem_cons.mpr ⟨am_k679, List.forall_mem_cons.mpr ⟨am_k682, List.forall_mem_cons.mpr ⟨am_k685, List.forall_mem_cons.mpr ⟨am_k688, List.forall_mem_cons.mpr ⟨am_k690, List.forall_mem_cons.mpr ⟨am_k693, List.forall_mem_cons.mpr ⟨am_k696, List.forall_mem_cons.mpr ⟨am_k699, List.forall_mem_cons.mpr ⟨am_k702, List.forall_mem_cons.mpr ⟨am_k705, List.forall_mem_cons.mpr ⟨am_k708, List.forall_mem_cons.mpr ⟨am_k710, List.forall_mem_cons.mpr ⟨am_k713, List.forall_mem_cons.mpr ⟨am_k716, List.forall_mem_cons.mpr ⟨am_k718, List.forall_mem_cons.mpr ⟨am_k721, List.forall_mem_cons.mpr ⟨am_k723, List.forall_mem_cons.mpr ⟨am_k725, List.forall_mem_cons.mpr ⟨am_k727, List.forall_mem_cons.mpr ⟨am_k730, List.forall_mem_cons.mpr ⟨am_k733, List.forall_mem_cons.mpr ⟨am_k736, List.forall_mem_cons.mpr ⟨am_k738, List.forall_mem_cons.mpr ⟨am_k741, List.forall_mem_cons.mpr ⟨am_k744, List.forall_mem_cons.mpr ⟨am_k747, List.forall_mem_cons.mpr ⟨am_k750, List.forall_mem_cons.mpr ⟨am_k753, List.forall_mem_cons.mpr ⟨am_k756, List.forall_mem_cons.mpr ⟨am_k759, List.forall_mem_cons.mpr ⟨am_k762, List.forall_mem_cons.mpr ⟨am_k765, List.forall_mem_cons.mpr ⟨am_k768, List.forall_mem_cons.mpr ⟨am_k771, List.forall_mem_cons.mpr ⟨am_k774, List.forall_mem_cons.mpr ⟨am_k777, List.forall_mem_cons.mpr ⟨am_k780, List.forall_mem_cons.mpr ⟨am_k783, List.forall_mem_cons.mpr ⟨am_k786, List.forall_mem_cons.mpr ⟨am_k789, List.forall_mem_cons.mpr ⟨am_k792, List.forall_mem_cons.mpr ⟨am_k795, List.forall_mem_cons.mpr ⟨am_k798, List.forall_mem_cons.mpr ⟨am_k801, List.forall_mem_cons.mpr ⟨am_k804, List.forall_mem_cons.mpr ⟨am_k807, List.forall_mem_cons.mpr ⟨am_k810, List.forall_mem_cons.mpr ⟨am_k813, List.forall_mem_cons.mpr ⟨am_k815, List.forall_mem_cons.mpr ⟨am_k818, List.forall_mem_cons.mpr ⟨am_k821, List.forall_mem_cons.mpr ⟨am_k824, List.forall_mem_cons.mpr ⟨am_k827, List.forall_mem_cons.mpr ⟨am_k830, List.forall_mem_cons.mpr ⟨am_k833, List.forall_mem_cons.mpr ⟨am_k836, List.forall_mem_cons.mpr ⟨am_k839, List.forall_mem_cons.mpr ⟨am_k842, List.forall_mem_cons.mpr ⟨am_k845, List.forall_mem_cons.mpr ⟨am_k848, List.forall_mem_cons.mpr ⟨am_k851, List.forall_mem_cons.mpr ⟨am_k854, List.forall_mem_cons.mpr ⟨am_k857, List.forall_mem_cons.mpr ⟨am_k860, List.forall_mem_cons.mpr ⟨am_k863, List.forall_mem_cons.mpr ⟨am_k866, List.forall_mem_cons.mpr ⟨am_k869, List.forall_mem_cons.mpr ⟨am_k872, List.forall_mem_cons.mpr ⟨am_k875, List.forall_mem_cons.mpr ⟨am_k878, List.forall_mem_cons.mpr ⟨am_k881, List.forall_mem_cons.mpr ⟨am_k884, List.forall_mem_cons.mpr ⟨am_k887, List.forall_mem_cons.mpr ⟨am_k890, List.forall_mem_cons.mpr ⟨am_k893, List.forall_mem_cons.mpr ⟨am_k896, List.forall_mem_cons.mpr ⟨am_k899, List.forall_mem_cons.mpr ⟨am_k902, List.forall_mem_cons.mpr ⟨am_k905, List.forall_mem_cons.mpr ⟨am_k908, List.forall_mem_cons.mpr ⟨am_k911, List.forall_mem_cons.mpr ⟨am_k914, List.forall_mem_cons.mpr ⟨am_k917, List.forall_mem_cons.mpr ⟨am_k920, List.forall_mem_cons.mpr ⟨am_k923, List.forall_mem_cons.mpr ⟨am_k926, List.forall_mem_cons.mpr ⟨am_k929, List.forall_mem_cons.mpr ⟨am_k932, List.forall_mem_cons.mpr ⟨am_k935, List.forall_mem_cons.mpr ⟨am_k938, List.forall_mem_cons.mpr ⟨am_k941, List.forall_mem_cons.mpr ⟨am_k944, List.forall_mem_cons.mpr ⟨am_k946, List.forall_mem_cons.mpr ⟨am_k949, List.forall_mem_cons.mpr ⟨am_k952, List.forall_mem_cons.mpr ⟨am_k955, List.forall_mem_cons.mpr ⟨am_k958, List.forall_mem_cons.mpr ⟨am_k961, List.forall_mem_cons.mpr ⟨am_k963, List.forall_mem_cons.mpr ⟨am_k966, List.forall_mem_cons.mpr ⟨am_k969, List.forall_mem_cons.mpr ⟨am_k972, List.forall_mem_cons.mpr ⟨am_k975, List.forall_mem_cons.mpr ⟨am_k978, List.forall_mem_cons.mpr ⟨am_k981, List.forall_mem_cons.mpr ⟨am_k984, List.forall_mem_cons.mpr ⟨am_k987, List.forall_mem_cons.mpr ⟨am_k990, List.forall_mem_cons.mpr ⟨am_k993, List.forall_mem_cons.mpr ⟨am_k996, List.forall_mem_cons.mpr ⟨am_k999, List.forall_mem_cons.mpr ⟨am_k1001, List.forall_mem_cons.mpr ⟨am_k1004, List.forall_mem_cons.mpr ⟨am_k1007, List.forall_mem_cons.mpr ⟨am_k1010, List.forall_mem_cons.mpr ⟨am_k1013, List.forall_mem_cons.mpr ⟨am_k1016, List.forall_mem_cons.mpr ⟨am_k1019, List.forall_mem_cons.mpr ⟨am_k1022, List.forall_mem_cons.mpr ⟨am_k1025, List.forall_mem_cons.mpr ⟨am_k1028, List.forall_mem_cons.mpr ⟨am_k1031, List.forall_mem_cons.mpr ⟨am_k1034, List.forall_mem_cons.mpr ⟨am_k1037, List.forall_mem_cons.mpr ⟨am_k1040, List.forall_mem_cons.mpr ⟨am_k1043, List.forall_mem_cons.mpr ⟨am_k1046, List.forall_mem_cons.mpr ⟨am_k1049, List.forall_mem_cons.mpr ⟨am_k1052, List.forall_mem_cons.mpr ⟨am_k1055, List.forall_mem_cons.mpr ⟨am_k1058, List.forall_mem_cons.mpr ⟨am_k1060, List.forall_mem_cons.mpr ⟨am_k1062, List.forall_mem_cons.mpr ⟨am_k1064, List.forall_mem_cons.mpr ⟨am_k1066, List.forall_mem_cons.mpr ⟨am_k1069, List.forall_mem_cons.mpr ⟨am_k1072, List.forall_mem_cons.mpr ⟨am_k1075, List.forall_mem_cons.mpr ⟨am_k1078, List.forall_mem_cons.mpr ⟨am_k1081, List.forall_mem_cons.mpr ⟨am_k1084, List.forall_mem_cons.mpr ⟨am_k1086, List.forall_mem_cons.mpr ⟨am_k1089, List.forall_mem_cons.mpr ⟨am_k1092, List.forall_mem_cons.mpr ⟨am_k1095, List.forall_mem_cons.mpr ⟨am_k1098, List.forall_mem_cons.mpr ⟨am_k1101, List.forall_mem_cons.mpr ⟨am_k1104, List.forall_mem_cons.mpr ⟨am_k1107, List.forall_mem_cons.mpr ⟨am_k1109, List.forall_mem_cons.mpr ⟨am_k1112, List.forall_mem_cons.mpr ⟨am_k1115, List.forall_mem_cons.mpr ⟨am_k1117, List.forall_mem_cons.mpr ⟨am_k1119, List.forall_mem_cons.mpr ⟨am_k1121, List.forall_mem_cons.mpr ⟨am_k1124, List.forall_mem_cons.mpr ⟨am_k1127, List.forall_mem_cons.mpr ⟨am_k1130, List.forall_mem_cons.mpr ⟨am_k1133, List.forall_mem_cons.mpr ⟨am_k1136, List.forall_mem_cons.mpr ⟨am_k1139, List.forall_mem_cons.mpr ⟨am_k1142, List.forall_mem_cons.mpr ⟨am_k1145, List.forall_mem_cons.mpr ⟨am_k1148, List.forall_mem_cons.mpr ⟨am_k1151, List.forall_mem_cons.mpr ⟨am_k1154, List.forall_mem_cons.mpr ⟨am_k1157, List.forall_mem_cons.mpr ⟨am_k1160, List.forall_mem_cons.mpr ⟨am_k1163, List.forall_mem_cons.mpr ⟨am_k1166, List.forall_mem_cons.mpr ⟨am_k1169, List.forall_mem_cons.mpr ⟨am_k1172, List.forall_mem_cons.mpr ⟨am_k1175, List.forall_mem_cons.mpr ⟨am_k1178, List.forall_mem_cons.mpr ⟨am_k1181, List.forall_mem_cons.mpr ⟨am_k1184, List.forall_mem_cons.mpr ⟨am_k1187, List.forall_mem_cons.mpr ⟨am_k1190, List.forall_mem_cons.mpr ⟨am_k1193, List.forall_mem_cons.mpr ⟨am_k1196, List.forall_mem_cons.mpr ⟨am_k1199, List.forall_mem_cons.mpr ⟨am_k1202, List.forall_mem_cons.mpr ⟨am_k1205, List.forall_mem_cons.mpr ⟨am_k1208, List.forall_mem_cons.mpr ⟨am_k1211, List.forall_mem_cons.mpr ⟨am_k1214, List.forall_mem_cons.mpr ⟨am_k1217, List.forall_mem_cons.mpr ⟨am_k1220, List.forall_mem_cons.mpr ⟨am_k1223, List.forall_mem_cons.mpr ⟨am_k1226, List.forall_mem_cons.mpr ⟨am_k1229, List.forall_mem_cons.mpr ⟨am_k1232, List.forall_mem_cons.mpr ⟨am_k1235, List.forall_mem_cons.mpr ⟨am_k1238, List.forall_mem_cons.mpr ⟨am_k1241, List.forall_mem_cons.mpr ⟨am_k1244, List.forall_mem_cons.mpr ⟨am_k1247, List.forall_mem_cons.mpr ⟨am_k1250, List.forall_mem_cons.mpr ⟨am_k1253, List.forall_mem_cons.mpr ⟨am_k1255, List.forall_mem_cons.mpr ⟨am_k1257, List.forall_mem_cons.mpr ⟨am_k1259, List.forall_mem_cons.mpr ⟨am_k1261, List.forall_mem_cons.mpr ⟨am_k1263, List.forall_mem_cons.mpr ⟨am_k1265, List.forall_mem_cons.mpr ⟨am_k1267, List.forall_mem_cons.mpr ⟨am_k1270, List.forall_mem_cons.mpr ⟨am_k1273, List.forall_mem_cons.mpr ⟨am_k1276, List.forall_mem_cons.mpr ⟨am_k1279, List.forall_mem_cons.mpr ⟨am_k1282, List.forall_mem_cons.mpr ⟨am_k1285, List.forall_mem_cons.mpr ⟨am_k1288, List.forall_mem_cons.mpr ⟨am_k1291, List.forall_mem_cons.mpr ⟨am_k1294, List.forall_mem_cons.mpr ⟨am_k1297, List.forall_mem_cons.mpr ⟨am_k1300, List.forall_mem_cons.mpr ⟨am_k1303, List.forall_mem_cons.mpr ⟨am_k1306, List.forall_mem_cons.mpr ⟨am_k1309, List.forall_mem_cons.mpr ⟨am_k1312, List.forall_mem_cons.mpr ⟨am_k1315, List.forall_mem_cons.mpr ⟨am_k1318, List.forall_mem_cons.mpr ⟨am_k1321, List.forall_mem_cons.mpr ⟨am_k1324, List.forall_mem_cons.mpr ⟨am_k1327, List.forall_mem_cons.mpr ⟨am_k1330, List.forall_mem_cons.mpr ⟨am_k1333, List.forall_mem_cons.mpr ⟨am_k1335, List.forall_mem_cons.mpr ⟨am_k1338, List.forall_mem_cons.mpr ⟨am_k1341, List.forall_mem_cons.mpr ⟨am_k1344, List.forall_mem_cons.mpr ⟨am_k1347, List.forall_mem_cons.mpr ⟨am_k1350, List.forall_mem_cons.mpr ⟨am_k1353, List.forall_mem_cons.mpr ⟨am_k1356, List.forall_mem_cons.mpr ⟨am_k1359, List.forall_mem_cons.mpr ⟨am_k1362, List.forall_mem_cons.mpr ⟨am_k1365, List.forall_mem_cons.mpr ⟨am_k1368, List.forall_mem_cons.mpr ⟨am_k1371, List.forall_mem_cons.mpr ⟨am_k1374, List.forall_mem_cons.mpr ⟨am_k1377, List.forall_mem_cons.mpr ⟨am_k1380, List.forall_mem_cons.mpr ⟨am_k1383, List.forall_mem_cons.mpr ⟨am_k1386, List.forall_mem_cons.mpr ⟨am_k1389, List.forall_mem_cons.mpr ⟨am_k1392, List.forall_mem_cons.mpr ⟨am_k1395, List.forall_mem_cons.mpr ⟨am_k1398, List.forall_mem_cons.mpr ⟨am_k1401, List.forall_mem_cons.mpr ⟨am_k1404, List.forall_mem_cons.mpr ⟨am_k1407, List.forall_mem_cons.mpr ⟨am_k1410, List.forall_mem_cons.mpr ⟨am_k1413, List.forall_mem_cons.mpr ⟨am_k1416, List.forall_mem_cons.mpr ⟨am_k1419, List.forall_mem_cons.mpr ⟨am_k1422, List.forall_mem_cons.mpr ⟨am_k1425, List.forall_mem_cons.mpr ⟨am_k1428, List.forall_mem_cons.mpr ⟨am_k1431, List.forall_mem_cons.mpr ⟨am_k1434, List.forall_mem_cons.mpr ⟨am_k1437, List.forall_mem_cons.mpr ⟨am_k1440, List.forall_mem_cons.mpr ⟨am_k1443, List.forall_mem_cons.mpr ⟨am_k1446, List.forall_mem_cons.mpr ⟨am_k1449, List.forall_mem_cons.mpr ⟨am_k1452, List.forall_mem_cons.mpr ⟨am_k1455, List.forall_mem_cons.mpr ⟨am_k1458, List.forall_mem_cons.mpr ⟨am_k1461, List.forall_mem_cons.mpr ⟨am_k1464, List.forall_mem_cons.mpr ⟨am_k1467, List.forall_mem_cons.mpr ⟨am_k1470, List.forall_mem_cons.mpr ⟨am_k1473, List.forall_mem_cons.mpr ⟨am_k1476, List.forall_mem_cons.mpr ⟨am_k1479, List.forall_mem_cons.mpr ⟨am_k1482, List.forall_mem_cons.mpr ⟨am_k1485, List.forall_mem_cons.mpr ⟨am_k1488, List.forall_mem_cons.mpr ⟨am_k1491, List.forall_mem_cons.mpr ⟨am_k1494, List.forall_mem_cons.mpr ⟨am_k1497, List.forall_mem_cons.mpr ⟨am_k1500, List.forall_mem_cons.mpr ⟨am_k1503, List.forall_mem_cons.mpr ⟨am_k1506, List.forall_mem_cons.mpr ⟨am_k1509, List.forall_mem_cons.mpr ⟨am_k1512, List.forall_mem_cons.mpr ⟨am_k1515, List.forall_mem_cons.mpr ⟨am_k1518, List.forall_mem_cons.mpr ⟨am_k1521, List.forall_mem_cons.mpr ⟨am_k1524, List.forall_mem_cons.mpr ⟨am_k1527, List.forall_mem_cons.mpr ⟨am_k1530, List.forall_mem_cons.mpr ⟨am_k1533, List.forall_mem_cons.mpr ⟨am_k1535, List.forall_mem_cons.mpr ⟨am_k1538, List.forall_mem_cons.mpr ⟨am_k1541, List.forall_mem_cons.mpr ⟨am_k1544, List.forall_mem_cons.mpr ⟨am_k1547, List.forall_mem_cons.mpr ⟨am_k1549, List.forall_mem_cons.mpr ⟨am_k1551, List.forall_mem_cons.mpr ⟨am_k1553, List.forall_mem_cons.mpr ⟨am_k1555, fun _ h => absurd h List.not_mem_nil⟩⟩⟩⟩⟩⟩⟩⟩⟩⟩⟩⟩⟩⟩⟩⟩⟩⟩⟩⟩⟩⟩⟩⟩⟩⟩⟩⟩⟩⟩⟩⟩⟩⟩⟩⟩⟩⟩⟩⟩⟩⟩⟩⟩⟩⟩⟩⟩⟩⟩⟩⟩⟩⟩⟩⟩⟩⟩⟩⟩⟩⟩⟩⟩⟩⟩⟩⟩⟩⟩⟩⟩⟩⟩⟩⟩⟩⟩⟩⟩⟩⟩⟩⟩⟩⟩⟩⟩⟩⟩⟩⟩⟩⟩⟩⟩⟩⟩⟩⟩⟩⟩⟩⟩⟩⟩⟩⟩⟩⟩⟩⟩⟩⟩⟩⟩⟩⟩⟩⟩⟩⟩⟩⟩⟩⟩⟩⟩⟩⟩⟩⟩⟩⟩⟩⟩⟩⟩⟩⟩⟩⟩⟩⟩⟩⟩⟩⟩⟩⟩⟩⟩⟩⟩⟩⟩⟩⟩⟩⟩⟩⟩⟩⟩⟩⟩⟩⟩⟩⟩⟩⟩⟩⟩⟩⟩⟩⟩⟩⟩⟩⟩⟩⟩⟩⟩⟩⟩⟩⟩⟩⟩⟩⟩⟩⟩⟩⟩⟩⟩⟩⟩⟩⟩⟩⟩⟩⟩⟩⟩⟩⟩⟩⟩⟩⟩⟩⟩⟩⟩⟩⟩⟩⟩⟩⟩⟩⟩⟩⟩⟩⟩⟩⟩⟩⟩⟩⟩⟩⟩⟩⟩⟩⟩⟩⟩⟩⟩⟩⟩⟩⟩⟩⟩⟩⟩⟩⟩⟩⟩⟩⟩⟩⟩⟩⟩⟩⟩⟩⟩⟩⟩⟩⟩⟩⟩⟩⟩⟩⟩⟩⟩⟩⟩⟩⟩⟩⟩⟩⟩⟩⟩⟩⟩⟩⟩⟩⟩⟩⟩⟩⟩⟩⟩⟩⟩⟩⟩⟩⟩⟩⟩⟩
set_option maxRecDepth 100000 in
theorem am_w3_in : ∀ e ∈ am_Ms, am_mF e = 0 → Cond.selects (am_mN e).cls (am_mN e) (am_mN e) ∈ lw_tbl := List.forall_mem_cons.mpr ⟨(fun h => absurd h (by decide)), List.forall_mem_cons.mpr ⟨(fun _ => am_k656), List.forall_mem_cons.mpr ⟨(fun _ => am_k659), List.forall_mem_cons.mpr ⟨(fun _ => am_k662), List.forall_mem_cons.mpr ⟨(fun _ => am_k665), List.forall_mem_cons.mpr ⟨(fun _ => am_k668), List.forall_mem_cons.mpr ⟨(fun _ => am_k671), List.forall_mem_cons.mpr ⟨(fun _ => am_k674), List.forall_mem_cons.mpr ⟨(fun _ => am_k677), List.forall_mem_cons.mpr ⟨(fun _ => am_k680), List.forall_mem_cons.mpr ⟨(fun _ => am_k683), List.forall_mem_cons.mpr ⟨(fun _ => am_k686), List.forall_mem_cons.mpr ⟨(fun h => absurd h (by decide)), List.forall_mem_cons.mpr ⟨(fun _ => am_k691), List.forall_mem_cons.mpr ⟨(fun _ => am_k694), List.forall_mem_cons.mpr ⟨(fun _ => am_k697), List.forall_mem_cons.mpr ⟨(fun _ => am_k700), List.forall_mem_cons.mpr ⟨(fun _ => am_k703), List.forall_mem_cons.mpr ⟨(fun _ => am_k706), List.forall_mem_cons.mpr ⟨(fun h => absurd h (by decide)), List.forall_mem_cons.mpr ⟨(fun _ => am_k711), List.forall_mem_cons.mpr ⟨(fun _ => am_k714), List.forall_mem_cons.mpr ⟨(fun h => absurd h (by decide)), List.forall_mem_cons.mpr ⟨(fun _ => am_k719), List.forall_mem_cons.mpr ⟨(fun h => absurd h (by decide)), List.forall_mem_cons.mpr ⟨(fun h => absurd h (by decide)), List.forall_mem_cons.mpr ⟨(fun h => absurd h (by decide)), List.forall_mem_cons.mpr ⟨(fun _ => am_k728), List.forall_mem_cons.mpr ⟨(fun _ => am_k731), List.forall_mem_cons.mpr ⟨(fun _ => am_k734), List.forall_mem_cons.mpr ⟨(fun h => absurd h (by decide)), List.forall_mem_cons.mpr ⟨(fun _ => am_k739), List.forall_mem_cons.mpr ⟨(fun _ => am_k742), List.forall_mem_cons.mpr ⟨(fun _ => am_k745), List.forall_mem_cons.mpr ⟨(fun _ => am_k748), List.forall_mem_cons.mpr ⟨(fun _ => am_k751), List.forall_mem_cons.mpr ⟨(fun _ => am_k754), List.forall_mem_cons.mpr ⟨(fun _ => am_k757), List.forall_mem_cons.mpr ⟨(fun _ => am_k760), List.forall_mem_cons.mpr ⟨(fun _ => am_k763), List.forall_mem_cons.mpr ⟨(fun _ => am_k766), List.forall_mem_cons.mpr ⟨(fun _ => am_k769), List.forall_mem_cons.mpr ⟨(fun _ => am_k772), List.forall_mem_cons.mpr ⟨(fun _ => am_k775), List.forall_mem_cons.mpr ⟨(fun _ => am_k778), List.forall_mem_cons.mpr ⟨(fun _ => am_k781), List.forall_mem_cons.mpr ⟨(fun _ => am_k784), List.forall_mem_cons.mpr ⟨(fun _ => am_k787), List.forall_mem_cons.mpr ⟨(fun _ => am_k790), List.forall_mem_cons.mpr ⟨(fun _ => am_k793), List.forall_mem_cons.mpr ⟨(fun _ => am_k796), List.forall_mem_cons.mpr ⟨(fun _ => am_k799), List.forall_mem_cons.mpr ⟨(fun _ => am_k802), List.forall_mem_cons.mpr ⟨(fun _ => am_k805), List.forall_mem_cons.mpr ⟨(fun _ => am_k808), List.forall_mem_cons.mpr ⟨(fun _ => am_k811), List.forall_mem_cons.mpr ⟨(fun h => absurd h (by decide)), List.forall_mem_cons.mpr ⟨(fun _ => am_k816), List.forall_mem_cons.mpr ⟨(fun _ => am_k819), List.forall_mem_cons.mpr ⟨(fun _ => am_k822), List.forall_mem_cons.mpr ⟨(fun _ => am_k825), List.forall_mem_cons.mpr ⟨(fun _ => am_k828), List.forall_mem_cons.mpr ⟨(fun _ => am_k831), List.forall_mem_cons.mpr ⟨(fun _ => am_k834), List.forall_mem_cons.mpr ⟨(fun _ => am_k837), List.forall_mem_cons.mpr ⟨(fun _ => am_k840), List.forall_mem_cons.mpr ⟨(fun _ => am_k843), List.forall_mem_cons.mpr ⟨(fun _ => am_k846), List.forall_mem_cons.mpr ⟨(fun _ => am_k849), List.forall_mem_cons.mpr ⟨(fun _ => am_k852), List.forall_mem_cons.mpr ⟨(fun _ => am_k855), List.forall_mem_cons.mpr ⟨(fun _ => am_k858), List.forall_mem_cons.mpr ⟨(fun _ => am_k861), List.forall_mem_cons.mpr ⟨(fun _ => am_k864), List.forall_mem_cons.mpr ⟨(fun _ => am_k867), List.forall_mem_cons.mpr ⟨(fun _ => am_k870), List.forall_mem_cons.mpr ⟨(fun _ => am_k873), List.forall_mem_cons.mpr ⟨(fun _ => am_k876), List.forall_mem_cons.mpr ⟨(fun _ => am_k879), List.forall_mem_cons.mpr ⟨(fun _ => am_k882), List.forall_mem_cons.mpr ⟨(fun _ => am_k885), List.forall_mem_cons.mpr ⟨(fun _ => am_k888), List.forall_mem_cons.mpr ⟨(fun _ => am_k891), List.forall_mem_cons.mpr ⟨(fun _ => am_k894), List.forall_mem_cons.mpr ⟨(fun _ => am_k897), List.forall_mem_cons.mpr ⟨(fun _ => am_k900), List.forall_mem_cons.mpr ⟨(fun _ => am_k903), List.forall_mem_cons.mpr ⟨(fun _ => am_k906), List.forall_mem_cons.mpr ⟨(fun _ => am_k909), List.forall_mem_cons.mpr ⟨(fun _ => am_k912), List.forall_mem_cons.mpr ⟨(fun _ => am_k915), List.forall_mem_cons.mpr ⟨(fun _ => am_k918), List.forall_mem_cons.mpr ⟨(fun _ => am_k921), List.forall_mem_cons.mpr ⟨(fun _ => am_k924), List.forall_mem_cons.mpr ⟨(fun _ => am_k927), List.forall_mem_cons.mpr ⟨(fun _ => am_k930), List.forall_mem_cons.mpr ⟨(fun _ => am_k933), List.forall_mem_cons.mpr ⟨(fun _ => am_k936), List.forall_mem_cons.mpr ⟨(fun _ => am_k939), List.forall_mem_cons.mpr ⟨(fun _ => am_k942), List.forall_mem_cons.mpr ⟨(fun h => absurd h (by decide)), List.forall_mem_cons.mpr ⟨(fun _ => am_k947), List.forall_mem_cons.mpr ⟨(fun _ => am_k950), List.forall_mem_cons.mpr ⟨(fun _ => am_k953), List.forall_mem_cons.mpr ⟨(fun _ => am_k956), List.forall_mem_cons.mpr ⟨(fun _ => am_k959), List.forall_mem_cons.mpr ⟨(fun h => absurd h (by decide)), List.forall_mem_cons.mpr ⟨(fun _ => am_k964), List.forall_mem_cons.mpr ⟨(fun _ => am_k967), List.forall_mem_cons.mpr ⟨(fun _ => am_k970), List.forall_mem_cons.mpr ⟨(fun _ => am_k973), List.forall_mem_cons.mpr ⟨(fun _ => am_k976), List.forall_mem_cons.mpr ⟨(fun _ => am_k979), List.forall_mem_cons.mpr ⟨(fun _ => am_k982), List.forall_mem_cons.mpr ⟨(fun _ => am_k985), List.forall_mem_cons.mpr ⟨(fun _ => am_k988), List.forall_mem_cons.mpr ⟨(fun _ => am_k991), List.forall_mem_cons.mpr ⟨(fun _ => am_k994), List.forall_mem_cons.mpr ⟨(fun _ => am_k997), List.forall_mem_cons.mpr ⟨(fun h => absurd h (by decide)), List.forall_mem_cons.mpr ⟨(fun _ => am_k1002), List.forall_mem_cons.mpr ⟨(fun _ => am_k1005), List.forall_mem_cons.mpr ⟨(fun _ => am_k1008), List.forall_mem_cons.mpr ⟨(fun _ => am_k1011), List.forall_mem_cons.mpr ⟨(fun _ => am_k1014), List.forall_mem_cons.mpr ⟨(fun _ => am_k1017), List.forall_mem_cons.mpr ⟨(fun _ => am_k1020), List.forall_mem_cons.mpr ⟨(fun _ => am_k1023), List.forall_mem_cons.mpr ⟨(fun _ => am_k1026), List.forall_mem_cons.mpr ⟨(fun _ => am_k1029), List.forall_mem_cons.mpr ⟨(fun _ => am_k1032), List.forall_mem_cons.mpr ⟨(fun _ => am_k1035), List.forall_mem_cons.mpr ⟨(fun _ => am_k1038), List.forall_mem_cons.mpr ⟨(fun _ => am_k1041), List.forall_mem_cons.mpr ⟨(fun _ => am_k1044), List.forall_mem_cons.mpr ⟨(fun _ => am_k1047), List.forall_mem_cons.mpr ⟨(fun _ => am_k1050), List.forall_mem_cons.mpr ⟨(fun _ => am_k1053), List.forall_mem_cons.mpr ⟨(fun _ => am_k1056), List.forall_mem_cons.mpr ⟨(fun h => absurd h (by decide)), List.forall_mem_cons.mpr ⟨(fun h => absurd h (by decide)), List.forall_mem_cons.mpr ⟨(fun h => absurd h (by decide)), List.forall_mem_cons.mpr ⟨(fun h => absurd h (by decide)), List.forall_mem_cons.mpr ⟨(fun _ => am_k1067), List.forall_mem_cons.mpr ⟨(fun _ => am_k1070), List.forall_mem_cons.mpr ⟨(fun _ => am_k1073), List.forall_mem_cons.mpr ⟨(fun _ => am_k1076), List.forall_mem_cons.mpr ⟨(fun _ => am_k1079), List.forall_mem_cons.mpr ⟨(fun _ => am_k1082), List.forall_mem_cons.mpr ⟨(fun h => absurd h (by decide)), List.forall_mem_cons.mpr ⟨(fun _ => am_k1087), List.forall_mem_cons.mpr ⟨(fun _ => am_k1090), List.forall_mem_cons.mpr ⟨(fun _ => am_k1093), List.forall_mem_cons.mpr ⟨(fun _ => am_k1096), List.forall_mem_cons.mpr ⟨(fun _ => am_k1099), List.forall_mem_cons.mpr ⟨(fun _ => am_k1102), List.forall_mem_cons.mpr ⟨(fun _ => am_k1105), List.forall_mem_cons.mpr ⟨(fun h => absurd h (by decide)), List.forall_mem_cons.mpr ⟨(fun _ => am_k1110), List.forall_mem_cons.mpr ⟨(fun _ => am_k1113), List.forall_mem_cons.mpr ⟨(fun h => absurd h (by decide)), List.forall_mem_cons.mpr ⟨(fun h => absurd h (by decide)), List.forall_mem_cons.mpr ⟨(fun h => absurd h (by decide)), List.forall_mem_cons.mpr ⟨(fun _ => am_k1122), List.forall_mem_cons.mpr ⟨(fun _ => am_k1125), List.forall_mem_cons.mpr ⟨(fun _ => am_k1128), List.forall_mem_cons.mpr ⟨(fun _ => am_k1131), List.forall_mem_cons.mpr ⟨(fun _ => am_k1134), List.forall_mem_cons.mpr ⟨(fun _ => am_k1137), List.forall_mem_cons.mpr ⟨(fun _ => am_k1140), List.forall_mem_cons.mpr ⟨(fun _ => am_k1143), List.forall_mem_cons.mpr ⟨(fun _ => am_k1146), List.forall_mem_cons.mpr ⟨(fun _ => am_k1149), List.forall_mem_cons.mpr ⟨(fun _ => am_k1152), List.forall_mem_cons.mpr ⟨(fun _ => am_k1155), List.forall_mem_cons.mpr ⟨(fun _ => am_k1158), List.forall_mem_cons.mpr ⟨(fun _ => am_k1161), List.forall_mem_cons.mpr ⟨(fun _ => am_k1164), List.forall_mem_cons.mpr ⟨(fun _ => am_k1167), List.forall_mem_cons.mpr ⟨(fun _ => am_k1170), List.forall_mem_cons.mpr ⟨(fun _ => am_k1173), List.forall_mem_cons.mpr ⟨(fun _ => am_k1176), List.forall_mem_cons.mpr ⟨(fun _ => am_k1179), List.forall_mem_cons.mpr ⟨(fun _ => am_k1182), List.forall_mem_cons.mpr ⟨(fun _ => am_k1185), List.forall_mem_cons.mpr ⟨(fun _ => am_k1188), List.forall_mem_cons.mpr ⟨(fun _ => am_k1191), List.forall_mem_cons.mpr ⟨(fun _ => am_k1194), List.forall_mem_cons.mpr ⟨(fun _ => am_k1197), List.forall_mem_cons.mpr ⟨(fun _ => am_k1200), List.forall_mem_cons.mpr ⟨(fun _ => am_k1203), List.forall_mem_cons.mpr ⟨(fun _ => am_k1206), List.forall_mem_cons.mpr ⟨(fun _ => am_k1209), List.forall_mem_cons.mpr ⟨(fun _ => am_k1212), List.forall_mem_cons.mpr ⟨(fun _ => am_k1215), List.forall_mem_cons.mpr ⟨(fun _ => am_k1218), List.forall_mem_cons.mpr ⟨(fun _ => am_k1221), List.forall_mem_cons.mpr ⟨(fun _ => am_k1224), List.forall_mem_cons.mpr ⟨(fun _ => am_k1227), List.forall_mem_cons.mpr ⟨(fun _ => am_k1230), List.forall_mem_cons.mpr ⟨(fun _ => am_k1233), List.forall_mem_cons.mpr ⟨(fun _ => am_k1236), List.forall_mem_cons.mpr ⟨(fun _ => am_k1239), List.forall_mem_cons.mpr ⟨(fun _ => am_k1242), List.forall_mem_cons.mpr ⟨(fun _ => am_k1245), List.forall_mem_cons.mpr ⟨(fun _ => am_k1248), List.forall_mem_cons.mpr ⟨(fun _ => am_k1251), List.forall_mem_cons.mpr ⟨(fun h => absurd h (by decide)), List.forall_mem_cons.mpr ⟨(fun h => absurd h (by decide)), List.forall_mem_cons.mpr ⟨(fun h => absurd h (by decide)), List.forall_mem_cons.mpr ⟨(fun h => absurd h (by decide)), List.forall_mem_cons.mpr ⟨(fun h => absurd h (by decide)), List.forall_mem_cons.mpr ⟨(fun h => absurd h (by decide)), List.forall_mem_cons.mpr ⟨(fun h => absurd h (by decide)), List.forall_mem_cons.mpr ⟨(fun _ => am_k1268), List.forall_mem_cons.mpr ⟨(fun _ => am_k1271), List.forall_mem_cons.mpr ⟨(fun _ => am_k1274), List.forall_mem_cons.mpr ⟨(fun _ => am_k1277), List.forall_mem_cons.mpr ⟨(fun _ => am_k1280), List.forall_mem_cons.mpr ⟨(fun _ => am_k1283), List.forall_mem_cons.mpr ⟨(fun _ => am_k1286), List.forall_mem_cons.mpr ⟨(fun _ => am_k1289), List.forall_mem_cons.mpr ⟨(fun _ => am_k1292), List.forall_mem_cons.mpr ⟨(fun _ => am_k1295), List.forall_mem_cons.mpr ⟨(fun _ => am_k1298), List.forall_mem_cons.mpr ⟨(fun _ => am_k1301), List.forall_mem_cons.mpr ⟨(fun _ => am_k1304), List.forall_mem_cons.mpr ⟨(fun _ => am_k1307), List.forall_mem_cons.mpr ⟨(fun _ => am_k1310), List.forall_mem_cons.mpr ⟨(fun _ => am_k1313), List.forall_mem_cons.mpr ⟨(fun _ => am_k1316), List.forall_mem_cons.mpr ⟨(fun _ => am_k1319), List.forall_mem_cons.mpr ⟨(fun _ => am_k1322), List.forall_mem_cons.mpr ⟨(fun _ => am_k1325), List.forall_mem_cons.mpr ⟨(fun _ => am_k1328), List.forall_mem_cons.mpr ⟨(fun _ => am_k1331), List.forall_mem_cons.mpr ⟨(fun h => absurd h (by decide)), List.forall_mem_cons.mpr ⟨(fun _ => am_k1336), List.forall_mem_cons.mpr ⟨(fun _ => am_k1339), List.forall_mem_cons.mpr ⟨(fun _ => am_k1342), List.forall_mem_cons.mpr ⟨(fun _ => am_k1345), List.forall_mem_cons.mpr ⟨(fun _ => am_k1348), List.forall_mem_cons.mpr ⟨(fun _ => am_k1351), List.forall_mem_cons.mpr ⟨(fun _ => am_k1354), List.forall_mem_cons.mpr ⟨(fun _ => am_k1357), List.forall_mem_cons.mpr ⟨(fun _ => am_k1360), List.forall_mem_cons.mpr ⟨(fun _ => am_k1363), List.forall_mem_cons.mpr ⟨(fun _ => am_k1366), List.forall_mem_cons.mpr ⟨(fun _ => am_k1369), List.forall_mem_cons.mpr ⟨(fun _ => am_k1372), List.forall_mem_cons.mpr ⟨(fun _ => am_k1375), List.forall_mem_cons.mpr ⟨(fun _ => am_k1378), List.forall_mem_cons.mpr ⟨(fun _ => am_k1381), List.forall_mem_cons.mpr ⟨(fun _ => am_k1384), List.forall_mem_cons.mpr ⟨(fun _ => am_k1387), List.forall_mem_cons.mpr ⟨(fun _ => am_k1390), List.forall_mem_cons.mpr ⟨(fun _ => am_k1393), List.forall_mem_cons.mpr ⟨(fun _ => am_k1396), List.forall_mem_cons.mpr ⟨(fun _ => am_k1399), List.forall_mem_cons.mpr ⟨(fun _ => am_k1402), List.forall_mem_cons.mpr ⟨(fun _ => am_k1405), List.forall_mem_cons.mpr ⟨(fun _ => am_k1408), List.forall_mem_cons.mpr ⟨(fun _ => am_k1411), List.forall_mem_cons.mpr ⟨(fun _ => am_k1414), List.forall_mem_cons.mpr ⟨(fun _ => am_k1417), List.forall_mem_cons.mpr ⟨(fun _ => am_k1420), List.forall_mem_cons.mpr ⟨(fun _ => am_k1423), List.forall_mem_cons.mpr ⟨(fun _ => am_k1426), List.forall_mem_cons.mpr ⟨(fun _ => am_k1429), List.forall_mem_cons.mpr ⟨(fun _ => am_k1432), List.forall_mem_cons.mpr ⟨(fun _ => am_k1435), List.forall_mem_cons.mpr ⟨(fun _ => am_k1438), List.forall_mem_cons.mpr ⟨(fun _ => am_k1441), List.forall_mem_cons.mpr ⟨(fun _ => am_k1444), List.forall_mem_cons.mpr ⟨(fun _ => am_k1447), List.forall_mem_cons.mpr ⟨(fun _ => am_k1450), List.forall_mem_cons.mpr ⟨(fun _ => am_k1453), List.forall_mem_cons.mpr ⟨(fun _ => am_k1456), List.forall_mem_cons.mpr ⟨(fun _ => am_k1459), List.forall_mem_cons.mpr ⟨(fun _ => am_k1462), List.forall_mem_cons.mpr ⟨(fun _ => am_k1465), List.forall_mem_cons.mpr ⟨(fun _ => am_k1468), List.forall_mem_cons.mpr ⟨(fun _ => am_k1471), List.forall_mem_cons.mpr ⟨(fun _ => am_k1474), List.forall_mem_cons.mpr ⟨(fun _ => am_k1477), List.forall_mem_cons.mpr ⟨(fun _ => am_k1480), List.forall_mem_cons.mpr ⟨(fun _ => am_k1483), List.forall_mem_cons.mpr ⟨(fun _ => am_k1486), List.forall_mem_cons.mpr ⟨(fun _ => am_k1489), List.forall_mem_cons.mpr ⟨(fun _ => am_k1492), List.forall_mem_cons.mpr ⟨(fun _ => am_k1495), List.forall_mem_cons.mpr ⟨(fun _ => am_k1498), List.forall_mem_cons.mpr ⟨(fun _ => am_k1501), List.forall_mem_cons.mpr ⟨(fun _ => am_k1504), List.forall_mem_cons.mpr ⟨(fun _ => am_k1507), List.forall_mem_cons.mpr ⟨(fun _ => am_k1510), List.forall_mem_cons.mpr ⟨(fun _ => am_k1513), List.forall_mem_cons.mpr ⟨(fun _ => am_k1516), List.forall_mem_cons.mpr ⟨(fun _ => am_k1519), List.forall_mem_cons.mpr ⟨(fun _ => am_k1522), List.forall_mem_cons.mpr ⟨(fun _ => am_k1525), List.forall_mem_cons.mpr ⟨(fun _ => am_k1528), List.forall_mem_cons.mpr ⟨(fun _ => am_k1531), List.forall_mem_cons.mpr ⟨(fun h => absurd h (by decide)), List.forall_mem_cons.mpr ⟨(fun _ => am_k1536), List.forall_mem_cons.mpr ⟨(fun _ => am_k1539), List.forall_mem_cons.mpr ⟨(fun _ => am_k1542), List.forall_mem_cons.mpr ⟨(fun _ => am_k1545), List.forall_mem_cons.mpr ⟨(fun h => absurd h (by decide)), List.forall_mem_cons.mpr ⟨(fun h => absurd h (by decide)), List.forall_mem_cons.mpr ⟨(fun h => absurd h (by decide)), List.forall_mem_cons.mpr ⟨(fun h => absurd h (by decide)), List.forall_mem_cons.mpr ⟨(fun h => absurd h (by decide)), fun _ h => absurd h List.not_mem_nil⟩⟩⟩⟩⟩⟩⟩⟩⟩⟩⟩⟩⟩⟩⟩⟩⟩⟩⟩⟩⟩⟩⟩⟩⟩⟩⟩⟩⟩⟩⟩⟩⟩⟩⟩⟩⟩⟩⟩⟩⟩⟩⟩⟩⟩⟩⟩⟩⟩⟩⟩⟩⟩⟩⟩⟩⟩⟩⟩⟩⟩⟩⟩⟩⟩⟩⟩⟩⟩⟩⟩⟩⟩⟩⟩⟩⟩⟩⟩⟩⟩⟩⟩⟩⟩⟩⟩⟩⟩⟩⟩⟩⟩⟩⟩⟩⟩⟩⟩⟩⟩⟩⟩⟩⟩⟩⟩⟩⟩⟩⟩⟩⟩⟩⟩⟩⟩⟩⟩⟩⟩⟩⟩⟩⟩⟩⟩⟩⟩⟩⟩⟩⟩⟩⟩⟩⟩⟩⟩⟩⟩⟩⟩⟩⟩⟩⟩⟩⟩⟩⟩⟩⟩⟩⟩⟩⟩⟩⟩⟩⟩⟩⟩⟩⟩⟩⟩⟩⟩⟩⟩⟩⟩⟩⟩⟩⟩⟩⟩⟩⟩⟩⟩⟩⟩⟩⟩⟩⟩⟩⟩⟩⟩⟩⟩⟩⟩⟩⟩⟩⟩⟩⟩⟩⟩⟩⟩⟩⟩⟩⟩⟩⟩⟩⟩⟩⟩⟩⟩⟩⟩⟩⟩⟩⟩⟩⟩⟩⟩⟩⟩⟩⟩⟩⟩⟩⟩⟩⟩⟩⟩⟩⟩⟩⟩⟩⟩⟩⟩⟩⟩⟩⟩⟩⟩⟩⟩⟩⟩⟩⟩⟩⟩⟩⟩⟩⟩⟩⟩⟩⟩⟩⟩⟩⟩⟩⟩⟩⟩⟩⟩⟩⟩⟩⟩⟩⟩⟩⟩⟩⟩⟩⟩⟩⟩⟩⟩⟩⟩⟩⟩⟩⟩⟩⟩⟩⟩⟩⟩⟩⟩⟩⟩
def am_uword (e : Nat × Nat) : Cond := match vwCl[e.1]? with
  | some (C, T, _) => u_lay C T e.2
  | none => .initialized ""
set_option maxRecDepth 100000 in
theorem am_uP_in : ∀ e ∈ am_uP, am_uword e ∈ lw_tbl := List.forall_mem_cons.mpr ⟨am_k1574, List.forall_mem_cons.mpr ⟨am_k1575, List.forall_mem_cons.mpr ⟨am_k1576, List.forall_mem_cons.mpr ⟨am_k1577, List.forall_mem_cons.mpr ⟨am_k1578, List.forall_mem_cons.mpr ⟨am_k1579, List.forall_mem_cons.mpr ⟨am_k1580, List.forall_mem_cons.mpr ⟨am_k1581, List.forall_mem_cons.mpr ⟨am_k1582, List.forall_mem_cons.mpr ⟨am_k1583, List.forall_mem_cons.mpr ⟨am_k1584, List.forall_mem_cons.mpr ⟨am_k1585, List.forall_mem_cons.mpr ⟨am_k1586, List.forall_mem_cons.mpr ⟨am_k1587, List.forall_mem_cons.mpr ⟨am_k1588, List.forall_mem_cons.mpr ⟨am_k1589, List.forall_mem_cons.mpr ⟨am_k1590, List.forall_mem_cons.mpr ⟨am_k1591, List.forall_mem_cons.mpr ⟨am_k1592, List.forall_mem_cons.mpr ⟨am_k1593, List.forall_mem_cons.mpr ⟨am_k1594, List.forall_mem_cons.mpr ⟨am_k1595, List.forall_mem_cons.mpr ⟨am_k1596, List.forall_mem_cons.mpr ⟨am_k1597, List.forall_mem_cons.mpr ⟨am_k1598, List.forall_mem_cons.mpr ⟨am_k1599, List.forall_mem_cons.mpr ⟨am_k1600, List.forall_mem_cons.mpr ⟨am_k1601, List.forall_mem_cons.mpr ⟨am_k1602, List.forall_mem_cons.mpr ⟨am_k1603, List.forall_mem_cons.mpr ⟨am_k1604, List.forall_mem_cons.mpr ⟨am_k1605, List.forall_mem_cons.mpr ⟨am_k1606, List.forall_mem_cons.mpr ⟨am_k1607, List.forall_mem_cons.mpr ⟨am_k1608, List.forall_mem_cons.mpr ⟨am_k1609, List.forall_mem_cons.mpr ⟨am_k1610, List.forall_mem_cons.mpr ⟨am_k1611, List.forall_mem_cons.mpr ⟨am_k1612, List.forall_mem_cons.mpr ⟨am_k1613, List.forall_mem_cons.mpr ⟨am_k1614, List.forall_mem_cons.mpr ⟨am_k1615, List.forall_mem_cons.mpr ⟨am_k1616, List.forall_mem_cons.mpr ⟨am_k1617, List.forall_mem_cons.mpr ⟨am_k1618, List.forall_mem_cons.mpr ⟨am_k1619, List.forall_mem_cons.mpr ⟨am_k1620, List.forall_mem_cons.mpr ⟨am_k1621, List.forall_mem_cons.mpr ⟨am_k1622, List.forall_mem_cons.mpr ⟨am_k1623, List.forall_mem_cons.mpr ⟨am_k1624, List.forall_mem_cons.mpr ⟨am_k1625, List.forall_mem_cons.mpr ⟨am_k1626, List.forall_mem_cons.mpr ⟨am_k1627, List.forall_mem_cons.mpr ⟨am_k1628, List.forall_mem_cons.mpr ⟨am_k1629, List.forall_mem_cons.mpr ⟨am_k1630, List.forall_mem_cons.mpr ⟨am_k1631, List.forall_mem_cons.mpr ⟨am_k1632, List.forall_mem_cons.mpr ⟨am_k1633, List.forall_mem_cons.mpr ⟨am_k1634, List.forall_mem_cons.mpr ⟨am_k1635, List.forall_mem_cons.mpr ⟨am_k1636, List.forall_mem_cons.mpr ⟨am_k1637, List.forall_mem_cons.mpr ⟨am_k1638, List.forall_mem_cons.mpr ⟨am_k1639, List.forall_mem_cons.mpr ⟨am_k1640, List.forall_mem_cons.mpr ⟨am_k1641, List.forall_mem_cons.mpr ⟨am_k1642, List.forall_mem_cons.mpr ⟨am_k1643, List.forall_mem_cons.mpr ⟨am_k1644, List.forall_mem_cons.mpr ⟨am_k1645, List.forall_mem_cons.mpr ⟨am_k1646, List.forall_mem_cons.mpr ⟨am_k1647, List.forall_mem_cons.mpr ⟨am_k1648, List.forall_mem_cons.mpr ⟨am_k1649, List.forall_mem_cons.mpr ⟨am_k1650, List.forall_mem_cons.mpr ⟨am_k1651, List.forall_mem_cons.mpr ⟨am_k1652, List.forall_mem_cons.mpr ⟨am_k1653, List.forall_mem_cons.mpr ⟨am_k1654, List.forall_mem_cons.mpr ⟨am_k1655, List.forall_mem_cons.mpr ⟨am_k1656, List.forall_mem_cons.mpr ⟨am_k1657, List.forall_mem_cons.mpr ⟨am_k1658, List.forall_mem_cons.mpr ⟨am_k1659, List.forall_mem_cons.mpr ⟨am_k1660, List.forall_mem_cons.mpr ⟨am_k1661, List.forall_mem_cons.mpr ⟨am_k1662, List.forall_mem_cons.mpr ⟨am_k1663, List.forall_mem_cons.mpr ⟨am_k1664, List.forall_mem_cons.mpr ⟨am_k1665, List.forall_mem_cons.mpr ⟨am_k1666, List.forall_mem_cons.mpr ⟨am_k1667, List.forall_mem_cons.mpr ⟨am_k1668, List.forall_mem_cons.mpr ⟨am_k1669, List.forall_mem_cons.mpr ⟨am_k1670, List.forall_mem_cons.mpr ⟨am_k1671, List.forall_mem_cons.mpr ⟨am_k1672, List.forall_mem_cons.mpr ⟨am_k1673, List.forall_mem_cons.mpr ⟨am_k1674, List.forall_mem_cons.mpr ⟨am_k1675, List.forall_mem_cons.mpr ⟨am_k1676, List.forall_mem_cons.mpr ⟨am_k1677, List.forall_mem_cons.mpr ⟨am_k1678, List.forall_mem_cons.mpr ⟨am_k1679, List.forall_mem_cons.mpr ⟨am_k1680, List.forall_mem_cons.mpr ⟨am_k1681, List.forall_mem_cons.mpr ⟨am_k1682, List.forall_mem_cons.mpr ⟨am_k1683, List.forall_mem_cons.mpr ⟨am_k1684, List.forall_mem_cons.mpr ⟨am_k1685, List.forall_mem_cons.mpr ⟨am_k1686, List.forall_mem_cons.mpr ⟨am_k1687, List.forall_mem_cons.mpr ⟨am_k1688, List.forall_mem_cons.mpr ⟨am_k1689, List.forall_mem_cons.mpr ⟨am_k1690, List.forall_mem_cons.mpr ⟨am_k1691, List.forall_mem_cons.mpr ⟨am_k1692, List.forall_mem_cons.mpr ⟨am_k1693, List.forall_mem_cons.mpr ⟨am_k1694, List.forall_mem_cons.mpr ⟨am_k1695, List.forall_mem_cons.mpr ⟨am_k1696, List.forall_mem_cons.mpr ⟨am_k1697, List.forall_mem_cons.mpr ⟨am_k1698, List.forall_mem_cons.mpr ⟨am_k1699, List.forall_mem_cons.mpr ⟨am_k1700, List.forall_mem_cons.mpr ⟨am_k1701, List.forall_mem_cons.mpr ⟨am_k1702, List.forall_mem_cons.mpr ⟨am_k1703, List.forall_mem_cons.mpr ⟨am_k1704, List.forall_mem_cons.mpr ⟨am_k1705, List.forall_mem_cons.mpr ⟨am_k1706, List.forall_mem_cons.mpr ⟨am_k1707, List.forall_mem_cons.mpr ⟨am_k1708, List.forall_mem_cons.mpr ⟨am_k1709, List.forall_mem_cons.mpr ⟨am_k1710, List.forall_mem_cons.mpr ⟨am_k1711, List.forall_mem_cons.mpr ⟨am_k1712, List.forall_mem_cons.mpr ⟨am_k1713, List.forall_mem_cons.mpr ⟨am_k1714, List.forall_mem_cons.mpr ⟨am_k1715, List.forall_mem_cons.mpr ⟨am_k1716, List.forall_mem_cons.mpr ⟨am_k1717, List.forall_mem_cons.mpr ⟨am_k1718, List.forall_mem_cons.mpr ⟨am_k1719, List.forall_mem_cons.mpr ⟨am_k1720, List.forall_mem_cons.mpr ⟨am_k1721, List.forall_mem_cons.mpr ⟨am_k1722, List.forall_mem_cons.mpr ⟨am_k1723, List.forall_mem_cons.mpr ⟨am_k1724, List.forall_mem_cons.mpr ⟨am_k1725, List.forall_mem_cons.mpr ⟨am_k1726, List.forall_mem_cons.mpr ⟨am_k1727, List.forall_mem_cons.mpr ⟨am_k1728, fun _ h => absurd h List.not_mem_nil⟩⟩⟩⟩⟩⟩⟩⟩⟩⟩⟩⟩⟩⟩⟩⟩⟩⟩⟩⟩⟩⟩⟩⟩⟩⟩⟩⟩⟩⟩⟩⟩⟩⟩⟩⟩⟩⟩⟩⟩⟩⟩⟩⟩⟩⟩⟩⟩⟩⟩⟩⟩⟩⟩⟩⟩⟩⟩⟩⟩⟩⟩⟩⟩⟩⟩⟩⟩⟩⟩⟩⟩⟩⟩⟩⟩⟩⟩⟩⟩⟩⟩⟩⟩⟩⟩⟩⟩⟩⟩⟩⟩⟩⟩⟩⟩⟩⟩⟩⟩⟩⟩⟩⟩⟩⟩⟩⟩⟩⟩⟩⟩⟩⟩⟩⟩⟩⟩⟩⟩⟩⟩⟩⟩⟩⟩⟩⟩⟩⟩⟩⟩⟩⟩⟩⟩⟩⟩⟩⟩⟩⟩⟩⟩⟩⟩⟩⟩⟩⟩⟩⟩⟩⟩⟩
set_option maxRecDepth 100000 in
theorem am_uP_all : (List.range 13).all (fun c => match vwCl[c]? with | some (_, _, N) => (List.range N).all (fun k => am_uP.contains (c, k)) | none => false) = true := by decide +kernel
def am_C13 : List Nat := [0, 1, 2, 3, 4, 5, 6, 7, 8, 9, 10, 11, 12]
set_option maxRecDepth 100000 in
theorem am_iW_in : ∀ e ∈ am_C13, Cond.instantiable (am_ON e) (match vwCl[e]? with | some (_, _, N) => N | none => 0) ∈ lw_tbl := List.forall_mem_cons.mpr ⟨am_k1729, List.forall_mem_cons.mpr ⟨am_k1730, List.forall_mem_cons.mpr ⟨am_k1731, List.forall_mem_cons.mpr ⟨am_k1732, List.forall_mem_cons.mpr ⟨am_k1733, List.forall_mem_cons.mpr ⟨am_k1734, List.forall_mem_cons.mpr ⟨am_k1735, List.forall_mem_cons.mpr ⟨am_k1736, List.forall_mem_cons.mpr ⟨am_k1737, List.forall_mem_cons.mpr ⟨am_k1738, List.forall_mem_cons.mpr ⟨am_k1739, List.forall_mem_cons.mpr ⟨am_k1740, List.forall_mem_cons.mpr ⟨am_k1741, fun _ h => absurd h List.not_mem_nil⟩⟩⟩⟩⟩⟩⟩⟩⟩⟩⟩⟩⟩
set_option maxRecDepth 100000 in
theorem am_jW_in : ∀ e ∈ am_C13, Cond.initialized (am_ON e) ∈ lw_tbl := List.forall_mem_cons.mpr ⟨am_k1561, List.forall_mem_cons.mpr ⟨am_k1562, List.forall_mem_cons.mpr ⟨am_k1566, List.forall_mem_cons.mpr ⟨am_k1567, List.forall_mem_cons.mpr ⟨am_k1568, List.forall_mem_cons.mpr ⟨am_k1569, List.forall_mem_cons.mpr ⟨am_k1570, List.forall_mem_cons.mpr ⟨am_k1571, List.forall_mem_cons.mpr ⟨am_k1572, List.forall_mem_cons.mpr ⟨am_k1573, List.forall_mem_cons.mpr ⟨am_k1563, List.forall_mem_cons.mpr ⟨am_k1564, List.forall_mem_cons.mpr ⟨am_k1565, fun _ h => absurd h List.not_mem_nil⟩⟩⟩⟩⟩⟩⟩⟩⟩⟩⟩⟩⟩
def am_oT : List Cond := [.arrayClass .int, .arrayClass .long, .arrayClass .byte, .arrayClass .boolean, .arrayOver (.object "OnlyLent$Holdings"), .arrayOver (.object "java/lang/String"), .arrayOver (.array .int), .native arraycopyName, .static arraycopyName, .initialized "java/lang/System", .initialized "java/lang/Math",
  .static Lib.Math.abs.name, .static Lib.Math.max.name, .static Lib.Math.min.name, .static Lib.MathLoose.min_long.x, .code Lib.Math.abs.name Lib.Math.abs.code 1 (some .int), .code Lib.Math.max.name Lib.Math.max.code 2 (some .int), .code Lib.Math.min.name Lib.Math.min.code 2 (some .int), .code Lib.MathLoose.min_long.x Lib.MathLoose.min_long.code 4 (some .long), .code objectInit ⟨#[0xb1]⟩ 1 none, .instanceMethod objectInit]
set_option maxRecDepth 100000 in
theorem am_oT_in : ∀ e ∈ am_oT, e ∈ lw_tbl := List.forall_mem_cons.mpr ⟨am_k1742, List.forall_mem_cons.mpr ⟨am_k1743, List.forall_mem_cons.mpr ⟨am_k1744, List.forall_mem_cons.mpr ⟨am_k1745, List.forall_mem_cons.mpr ⟨am_k1746, List.forall_mem_cons.mpr ⟨am_k1747, List.forall_mem_cons.mpr ⟨am_k1748, List.forall_mem_cons.mpr ⟨am_k1749, List.forall_mem_cons.mpr ⟨am_k1750, List.forall_mem_cons.mpr ⟨am_k1751, List.forall_mem_cons.mpr ⟨am_k1752, List.forall_mem_cons.mpr ⟨am_k1753, List.forall_mem_cons.mpr ⟨am_k1754, List.forall_mem_cons.mpr ⟨am_k1755, List.forall_mem_cons.mpr ⟨am_k1756, List.forall_mem_cons.mpr ⟨am_k1757, List.forall_mem_cons.mpr ⟨am_k1758, List.forall_mem_cons.mpr ⟨am_k1759, List.forall_mem_cons.mpr ⟨am_k1760, List.forall_mem_cons.mpr ⟨am_k1761, List.forall_mem_cons.mpr ⟨am_k1762, fun _ h => absurd h List.not_mem_nil⟩⟩⟩⟩⟩⟩⟩⟩⟩⟩⟩⟩⟩⟩⟩⟩⟩⟩⟩⟩⟩
/-- what else is to be known of each method -/
def am_mok (m : Nat) : Bool := (am_mN m).cls == am_ON (am_mO m) && plainName (am_mN m).cls && ((am_mN m).cls != "java/lang/invoke/MethodHandle" && (am_mN m).cls != "java/lang/invoke/VarHandle") && ((parseMethodDescriptor (am_mN m).desc).map (fun d => d.parameters.length) == some (am_mP m)) && decide (am_mL m ≤ 40) && ((am_mF m == 2) == ((am_mN m).name == "<init>"))
set_option maxRecDepth 100000 in
theorem am_mok_all : am_Ms.all am_mok = true := by decide +kernel
