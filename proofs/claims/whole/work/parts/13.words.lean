/-! WORDS of the tables, a link each (printed by wip/whole/rows12.py) -/
theorem BG_c1 {w : Cond} {i : Nat} (h : tables_1_1[i]? = some w) (hg : goodWord w = true) : w ∈ BG := by
  have hm := List.mem_of_getElem? h
  refine BG_of (List.mem_append_right _ ?_) hg
  show w ∈ tables_1_1 ++ (tables_1_2 ++ (tables_1_3 ++ (tables_1_4 ++ (tables_1_5 ++ (tables_1_6 ++ (tables_1_7 ++ tables_1_8))))))
  exact List.mem_append_left _ hm
theorem BG_c2 {w : Cond} {i : Nat} (h : tables_1_2[i]? = some w) (hg : goodWord w = true) : w ∈ BG := by
  have hm := List.mem_of_getElem? h
  refine BG_of (List.mem_append_right _ ?_) hg
  show w ∈ tables_1_1 ++ (tables_1_2 ++ (tables_1_3 ++ (tables_1_4 ++ (tables_1_5 ++ (tables_1_6 ++ (tables_1_7 ++ tables_1_8))))))
  exact List.mem_append_right _ (List.mem_append_left _ hm)
theorem BG_c3 {w : Cond} {i : Nat} (h : tables_1_3[i]? = some w) (hg : goodWord w = true) : w ∈ BG := by
  have hm := List.mem_of_getElem? h
  refine BG_of (List.mem_append_right _ ?_) hg
  show w ∈ tables_1_1 ++ (tables_1_2 ++ (tables_1_3 ++ (tables_1_4 ++ (tables_1_5 ++ (tables_1_6 ++ (tables_1_7 ++ tables_1_8))))))
  exact List.mem_append_right _ (List.mem_append_right _ (List.mem_append_left _ hm))
theorem BG_c4 {w : Cond} {i : Nat} (h : tables_1_4[i]? = some w) (hg : goodWord w = true) : w ∈ BG := by
  have hm := List.mem_of_getElem? h
  refine BG_of (List.mem_append_right _ ?_) hg
  show w ∈ tables_1_1 ++ (tables_1_2 ++ (tables_1_3 ++ (tables_1_4 ++ (tables_1_5 ++ (tables_1_6 ++ (tables_1_7 ++ tables_1_8))))))
  exact List.mem_append_right _ (List.mem_append_right _ (List.mem_append_right _ (List.mem_append_left _ hm)))
theorem BG_c5 {w : Cond} {i : Nat} (h : tables_1_5[i]? = some w) (hg : goodWord w = true) : w ∈ BG := by
  have hm := List.mem_of_getElem? h
  refine BG_of (List.mem_append_right _ ?_) hg
  show w ∈ tables_1_1 ++ (tables_1_2 ++ (tables_1_3 ++ (tables_1_4 ++ (tables_1_5 ++ (tables_1_6 ++ (tables_1_7 ++ tables_1_8))))))
  exact List.mem_append_right _ (List.mem_append_right _ (List.mem_append_right _ (List.mem_append_right _ (List.mem_append_left _ hm))))
theorem BG_c6 {w : Cond} {i : Nat} (h : tables_1_6[i]? = some w) (hg : goodWord w = true) : w ∈ BG := by
  have hm := List.mem_of_getElem? h
  refine BG_of (List.mem_append_right _ ?_) hg
  show w ∈ tables_1_1 ++ (tables_1_2 ++ (tables_1_3 ++ (tables_1_4 ++ (tables_1_5 ++ (tables_1_6 ++ (tables_1_7 ++ tables_1_8))))))
  exact List.mem_append_right _ (List.mem_append_right _ (List.mem_append_right _ (List.mem_append_right _ (List.mem_append_right _ (List.mem_append_left _ hm)))))
theorem BG_c7 {w : Cond} {i : Nat} (h : tables_1_7[i]? = some w) (hg : goodWord w = true) : w ∈ BG := by
  have hm := List.mem_of_getElem? h
  refine BG_of (List.mem_append_right _ ?_) hg
  show w ∈ tables_1_1 ++ (tables_1_2 ++ (tables_1_3 ++ (tables_1_4 ++ (tables_1_5 ++ (tables_1_6 ++ (tables_1_7 ++ tables_1_8))))))
  exact List.mem_append_right _ (List.mem_append_right _ (List.mem_append_right _ (List.mem_append_right _ (List.mem_append_right _ (List.mem_append_right _ (List.mem_append_left _ hm))))))
theorem BG_c8 {w : Cond} {i : Nat} (h : tables_1_8[i]? = some w) (hg : goodWord w = true) : w ∈ BG := by
  have hm := List.mem_of_getElem? h
  refine BG_of (List.mem_append_right _ ?_) hg
  show w ∈ tables_1_1 ++ (tables_1_2 ++ (tables_1_3 ++ (tables_1_4 ++ (tables_1_5 ++ (tables_1_6 ++ (tables_1_7 ++ tables_1_8))))))
  exact List.mem_append_right _ (List.mem_append_right _ (List.mem_append_right _ (List.mem_append_right _ (List.mem_append_right _ (List.mem_append_right _ (List.mem_append_right _ (hm)))))))
theorem kf_X11_10 : Cond.fieldLink RX11 10 "WayLeaves" "land" "LWayLeaves$Land;" ∈ BG := BG_c3 (i := 77) rfl rfl
theorem kf_X11_19 : Cond.fieldLink RX11 19 "WayLeaves" "heirs" "LWayLeaves$Heirs;" ∈ BG := BG_c3 (i := 78) rfl rfl
theorem kf_X11_28 : Cond.fieldLink RX11 28 "WayLeaves" "line" "LWayLeaves$Line;" ∈ BG := BG_c3 (i := 79) rfl rfl
theorem kf_X11_37 : Cond.fieldLink RX11 37 "WayLeaves" "leaves" "LWayLeaves$Leaves;" ∈ BG := BG_c3 (i := 80) rfl rfl
theorem kf_X11_44 : Cond.fieldLink RX11 44 "WayLeaves" "reader" "LWayLeaves$Reader;" ∈ BG := BG_c3 (i := 81) rfl rfl
theorem kf_X11_53 : Cond.fieldLink RX11 53 "WayLeaves" "acts" "LWayLeaves$Acts;" ∈ BG := BG_c3 (i := 82) rfl rfl
theorem kf_X11_62 : Cond.fieldLink RX11 62 "WayLeaves" "claims" "LWayLeaves$Claims;" ∈ BG := BG_c3 (i := 83) rfl rfl
theorem kf_X11_69 : Cond.fieldLink RX11 69 "WayLeaves" "looks" "LWayLeaves$Looks;" ∈ BG := BG_c3 (i := 84) rfl rfl
theorem kf_X11_76 : Cond.fieldLink RX11 76 "WayLeaves" "ways" "LWayLeaves$Ways;" ∈ BG := BG_c3 (i := 85) rfl rfl
theorem kf_X11_85 : Cond.fieldLink RX11 85 "WayLeaves" "asks" "LWayLeaves$Asks;" ∈ BG := BG_c3 (i := 86) rfl rfl
theorem kf_X11_92 : Cond.fieldLink RX11 92 "WayLeaves" "sheets" "LWayLeaves$Sheets;" ∈ BG := BG_c3 (i := 87) rfl rfl
theorem kf_X11_111 : Cond.fieldLink RX11 111 "WayLeaves$Land" "day" "I" ∈ BG := BG_c1 (i := 45) rfl rfl
theorem kf_X11_125 : Cond.fieldLink RX11 125 "WayLeaves$Land" "sales" "I" ∈ BG := BG_c1 (i := 49) rfl rfl
theorem kf_X11_142 : Cond.fieldLink RX11 142 "WayLeaves" "LEAST_TOLD" "[I" ∈ BG := BG_c3 (i := 159) rfl rfl
theorem kf_X11_146 : Cond.fieldLink RX11 146 "WayLeaves" "MOST_TOLD" "[I" ∈ BG := BG_c3 (i := 161) rfl rfl
theorem kf_X11_159 : Cond.fieldLink RX11 159 "WayLeaves$Line" "towers" "I" ∈ BG := BG_c1 (i := 108) rfl rfl
theorem kf_X11_168 : Cond.fieldLink RX11 168 "WayLeaves$Line" "spans" "I" ∈ BG := BG_c1 (i := 110) rfl rfl
theorem kf_X11_183 : Cond.fieldLink RX11 183 "WayLeaves$Line" "plots" "[I" ∈ BG := BG_c1 (i := 116) rfl rfl
theorem kf_X11_186 : Cond.fieldLink RX11 186 "WayLeaves$Line" "lengths" "[I" ∈ BG := BG_c1 (i := 119) rfl rfl
theorem kf_X11_204 : Cond.fieldLink RX11 204 "WayLeaves$Line" "askDays" "[I" ∈ BG := BG_c1 (i := 124) rfl rfl
theorem kf_X11_211 : Cond.fieldLink RX11 211 "WayLeaves$Leaves" "spans" "[I" ∈ BG := BG_c1 (i := 158) rfl rfl
theorem kf_X11_213 : Cond.fieldLink RX11 213 "WayLeaves$Leaves" "count" "I" ∈ BG := BG_c1 (i := 154) rfl rfl
theorem kf_X11_220 : Cond.fieldLink RX11 220 "WayLeaves$Leaves" "kinds" "[I" ∈ BG := BG_c1 (i := 156) rfl rfl
theorem kf_X11_223 : Cond.fieldLink RX11 223 "WayLeaves$Leaves" "begins" "[I" ∈ BG := BG_c1 (i := 161) rfl rfl
theorem kf_X11_229 : Cond.fieldLink RX11 229 "WayLeaves" "BINDS" "[I" ∈ BG := BG_c4 (i := 62) rfl rfl
theorem kf_X11_239 : Cond.fieldLink RX11 239 "WayLeaves$Leaves" "undone" "[I" ∈ BG := BG_c1 (i := 166) rfl rfl
theorem kf_X11_242 : Cond.fieldLink RX11 242 "WayLeaves$Leaves" "appealed" "[Z" ∈ BG := BG_c1 (i := 168) rfl rfl
theorem kf_X11_246 : Cond.fieldLink RX11 246 "WayLeaves$Leaves" "renewals" "[I" ∈ BG := BG_c1 (i := 164) rfl rfl
theorem kf_X11_259 : Cond.fieldLink RX11 259 "WayLeaves$Reader" "size" "I" ∈ BG := BG_c1 (i := 206) rfl rfl
theorem kf_X11_266 : Cond.fieldLink RX11 266 "WayLeaves$Acts" "count" "I" ∈ BG := BG_c2 (i := 9) rfl rfl
theorem kf_X11_267 : Cond.fieldLink RX11 267 "WayLeaves$Acts" "inForce" "I" ∈ BG := BG_c2 (i := 11) rfl rfl
theorem kf_X11_273 : Cond.fieldLink RX11 273 "WayLeaves$Claims" "count" "I" ∈ BG := BG_c2 (i := 47) rfl rfl
theorem kf_X11_276 : Cond.fieldLink RX11 276 "WayLeaves$Claims" "doubles" "I" ∈ BG := BG_c2 (i := 49) rfl rfl
theorem kf_X11_283 : Cond.fieldLink RX11 283 "WayLeaves$Looks" "count" "I" ∈ BG := BG_c2 (i := 79) rfl rfl
theorem kf_X11_288 : Cond.fieldLink RX11 288 "WayLeaves$Land" "holds" "[I" ∈ BG := BG_c1 (i := 55) rfl rfl
theorem kf_X11_332 : Cond.fieldLink RX11 332 "WayLeaves$Sheets" "sizes" "[I" ∈ BG := BG_c2 (i := 151) rfl rfl
theorem kf_X11_338 : Cond.fieldLink RX11 338 "WayLeaves$Sheets" "sorts" "[I" ∈ BG := BG_c2 (i := 149) rfl rfl
theorem kf_X11_344 : Cond.fieldLink RX11 344 "WayLeaves$Sheets" "rows" "[[I" ∈ BG := BG_c2 (i := 153) rfl rfl
theorem kf_X0_11 : Cond.fieldLink RX0 11 "WayLeaves$Acts" "codes" "[[I" ∈ BG := BG_c2 (i := 12) rfl rfl
theorem kf_X0_16 : Cond.fieldLink RX0 16 "WayLeaves$Acts" "middles" "[I" ∈ BG := BG_c2 (i := 13) rfl rfl
theorem kf_X0_20 : Cond.fieldLink RX0 20 "WayLeaves$Acts" "lengths" "[I" ∈ BG := BG_c2 (i := 14) rfl rfl
theorem kf_X0_23 : Cond.fieldLink RX0 23 "WayLeaves$Acts" "stack" "[I" ∈ BG := BG_c2 (i := 15) rfl rfl
theorem kf_X0_26 : Cond.fieldLink RX0 26 "WayLeaves$Acts" "land" "LWayLeaves$Land;" ∈ BG := BG_c2 (i := 6) rfl rfl
theorem kf_X0_30 : Cond.fieldLink RX0 30 "WayLeaves$Acts" "line" "LWayLeaves$Line;" ∈ BG := BG_c2 (i := 7) rfl rfl
theorem kf_X0_34 : Cond.fieldLink RX0 34 "WayLeaves$Reader" "code" "[I" ∈ BG := BG_c1 (i := 213) rfl rfl
theorem kf_X0_39 : Cond.fieldLink RX0 39 "WayLeaves$Acts" "count" "I" ∈ BG := BG_c2 (i := 8) rfl rfl
theorem kf_X0_43 : Cond.fieldLink RX0 43 "WayLeaves$Reader" "length" "I" ∈ BG := BG_c1 (i := 214) rfl rfl
theorem kf_X0_52 : Cond.fieldLink RX0 52 "WayLeaves$Reader" "middle" "I" ∈ BG := BG_c1 (i := 216) rfl rfl
theorem kf_X0_55 : Cond.fieldLink RX0 55 "WayLeaves$Acts" "inForce" "I" ∈ BG := BG_c2 (i := 10) rfl rfl
theorem kf_X0_58 : Cond.fieldLink RX0 58 "WayLeaves$Acts" "top" "I" ∈ BG := BG_c2 (i := 16) rfl rfl
theorem kf_X0_88 : Cond.fieldLink RX0 88 "WayLeaves$Line" "plots" "[I" ∈ BG := BG_c1 (i := 115) rfl rfl
theorem kf_X0_93 : Cond.fieldLink RX0 93 "WayLeaves$Land" "day" "I" ∈ BG := BG_c1 (i := 46) rfl rfl
theorem kf_X0_98 : Cond.fieldLink RX0 98 "WayLeaves$Line" "lengths" "[I" ∈ BG := BG_c1 (i := 118) rfl rfl
theorem kf_X0_106 : Cond.fieldLink RX0 106 "WayLeaves$Land" "told" "[[I" ∈ BG := BG_c1 (i := 58) rfl rfl
theorem kf_X1_9 : Cond.fieldLink RX1 9 "WayLeaves$Asks" "spans" "[I" ∈ BG := BG_c2 (i := 118) rfl rfl
theorem kf_X1_15 : Cond.fieldLink RX1 15 "WayLeaves$Asks" "ends" "[I" ∈ BG := BG_c2 (i := 119) rfl rfl
theorem kf_X1_18 : Cond.fieldLink RX1 18 "WayLeaves$Asks" "doneDays" "[I" ∈ BG := BG_c2 (i := 120) rfl rfl
theorem kf_X1_21 : Cond.fieldLink RX1 21 "WayLeaves$Asks" "best" "[I" ∈ BG := BG_c2 (i := 121) rfl rfl
theorem kf_X1_24 : Cond.fieldLink RX1 24 "WayLeaves$Asks" "land" "LWayLeaves$Land;" ∈ BG := BG_c2 (i := 114) rfl rfl
theorem kf_X1_28 : Cond.fieldLink RX1 28 "WayLeaves$Asks" "line" "LWayLeaves$Line;" ∈ BG := BG_c2 (i := 115) rfl rfl
theorem kf_X1_32 : Cond.fieldLink RX1 32 "WayLeaves$Asks" "leaves" "LWayLeaves$Leaves;" ∈ BG := BG_c2 (i := 116) rfl rfl
theorem kf_X1_36 : Cond.fieldLink RX1 36 "WayLeaves$Asks" "count" "I" ∈ BG := BG_c2 (i := 117) rfl rfl
theorem kf_X1_40 : Cond.fieldLink RX1 40 "WayLeaves$Land" "day" "I" ∈ BG := BG_c1 (i := 42) rfl rfl
theorem kf_X1_45 : Cond.fieldLink RX1 45 "WayLeaves$Line" "askDays" "[I" ∈ BG := BG_c1 (i := 123) rfl rfl
theorem kf_X2_9 : Cond.fieldLink RX2 9 "WayLeaves$Claims" "owners" "[I" ∈ BG := BG_c2 (i := 50) rfl rfl
theorem kf_X2_15 : Cond.fieldLink RX2 15 "WayLeaves$Claims" "spans" "[I" ∈ BG := BG_c2 (i := 51) rfl rfl
theorem kf_X2_18 : Cond.fieldLink RX2 18 "WayLeaves$Claims" "sums" "[I" ∈ BG := BG_c2 (i := 52) rfl rfl
theorem kf_X2_21 : Cond.fieldLink RX2 21 "WayLeaves$Claims" "land" "LWayLeaves$Land;" ∈ BG := BG_c2 (i := 42) rfl rfl
theorem kf_X2_25 : Cond.fieldLink RX2 25 "WayLeaves$Claims" "leaves" "LWayLeaves$Leaves;" ∈ BG := BG_c2 (i := 43) rfl rfl
theorem kf_X2_29 : Cond.fieldLink RX2 29 "WayLeaves$Claims" "acts" "LWayLeaves$Acts;" ∈ BG := BG_c2 (i := 44) rfl rfl
theorem kf_X2_33 : Cond.fieldLink RX2 33 "WayLeaves$Claims" "heirs" "LWayLeaves$Heirs;" ∈ BG := BG_c2 (i := 45) rfl rfl
theorem kf_X2_41 : Cond.fieldLink RX2 41 "WayLeaves$Claims" "doubles" "I" ∈ BG := BG_c2 (i := 48) rfl rfl
theorem kf_X2_45 : Cond.fieldLink RX2 45 "WayLeaves$Claims" "count" "I" ∈ BG := BG_c2 (i := 46) rfl rfl
theorem kf_X2_53 : Cond.fieldLink RX2 53 "WayLeaves$Land" "day" "I" ∈ BG := BG_c1 (i := 44) rfl rfl
theorem kf_X3_11 : Cond.fieldLink RX3 11 "WayLeaves$Heirs" "shares" "[[I" ∈ BG := BG_c1 (i := 92) rfl rfl
theorem kf_X3_16 : Cond.fieldLink RX3 16 "WayLeaves$Heirs" "till" "[J" ∈ BG := BG_c1 (i := 93) rfl rfl
theorem kf_X4_9 : Cond.fieldLink RX4 9 "WayLeaves$Land" "salePlots" "[I" ∈ BG := BG_c1 (i := 50) rfl rfl
theorem kf_X4_15 : Cond.fieldLink RX4 15 "WayLeaves$Land" "saleOwners" "[I" ∈ BG := BG_c1 (i := 51) rfl rfl
theorem kf_X4_18 : Cond.fieldLink RX4 18 "WayLeaves$Land" "saleDays" "[I" ∈ BG := BG_c1 (i := 52) rfl rfl
theorem kf_X4_21 : Cond.fieldLink RX4 21 "WayLeaves$Land" "holds" "[I" ∈ BG := BG_c1 (i := 53) rfl rfl
theorem kf_X4_26 : Cond.fieldLink RX4 26 "WayLeaves$Land" "told" "[[I" ∈ BG := BG_c1 (i := 56) rfl rfl
theorem kf_X4_29 : Cond.fieldLink RX4 29 "WayLeaves$Land" "treeHeights" "[I" ∈ BG := BG_c1 (i := 60) rfl rfl
theorem kf_X4_32 : Cond.fieldLink RX4 32 "WayLeaves$Land" "treeGrowths" "[I" ∈ BG := BG_c1 (i := 61) rfl rfl
theorem kf_X4_35 : Cond.fieldLink RX4 35 "WayLeaves$Land" "treeDays" "[I" ∈ BG := BG_c1 (i := 62) rfl rfl
theorem kf_X4_44 : Cond.fieldLink RX4 44 "WayLeaves$Land" "day" "I" ∈ BG := BG_c1 (i := 41) rfl rfl
theorem kf_X4_52 : Cond.fieldLink RX4 52 "WayLeaves$Land" "sales" "I" ∈ BG := BG_c1 (i := 48) rfl rfl
theorem kf_X5_9 : Cond.fieldLink RX5 9 "WayLeaves$Leaves" "kinds" "[I" ∈ BG := BG_c1 (i := 155) rfl rfl
theorem kf_X5_15 : Cond.fieldLink RX5 15 "WayLeaves$Leaves" "spans" "[I" ∈ BG := BG_c1 (i := 157) rfl rfl
theorem kf_X5_18 : Cond.fieldLink RX5 18 "WayLeaves$Leaves" "sums" "[I" ∈ BG := BG_c1 (i := 159) rfl rfl
theorem kf_X5_21 : Cond.fieldLink RX5 21 "WayLeaves$Leaves" "begins" "[I" ∈ BG := BG_c1 (i := 160) rfl rfl
theorem kf_X5_24 : Cond.fieldLink RX5 24 "WayLeaves$Leaves" "ons" "[I" ∈ BG := BG_c1 (i := 162) rfl rfl
theorem kf_X5_27 : Cond.fieldLink RX5 27 "WayLeaves$Leaves" "renewals" "[I" ∈ BG := BG_c1 (i := 163) rfl rfl
theorem kf_X5_30 : Cond.fieldLink RX5 30 "WayLeaves$Leaves" "undone" "[I" ∈ BG := BG_c1 (i := 165) rfl rfl
theorem kf_X5_33 : Cond.fieldLink RX5 33 "WayLeaves$Leaves" "appealed" "[Z" ∈ BG := BG_c1 (i := 167) rfl rfl
theorem kf_X5_37 : Cond.fieldLink RX5 37 "WayLeaves$Leaves" "marks" "[Z" ∈ BG := BG_c1 (i := 169) rfl rfl
theorem kf_X5_40 : Cond.fieldLink RX5 40 "WayLeaves$Leaves" "land" "LWayLeaves$Land;" ∈ BG := BG_c1 (i := 150) rfl rfl
theorem kf_X5_44 : Cond.fieldLink RX5 44 "WayLeaves$Leaves" "line" "LWayLeaves$Line;" ∈ BG := BG_c1 (i := 151) rfl rfl
theorem kf_X5_48 : Cond.fieldLink RX5 48 "WayLeaves$Leaves" "heirs" "LWayLeaves$Heirs;" ∈ BG := BG_c1 (i := 152) rfl rfl
theorem kf_X5_52 : Cond.fieldLink RX5 52 "WayLeaves$Leaves" "count" "I" ∈ BG := BG_c1 (i := 153) rfl rfl
theorem kf_X5_73 : Cond.fieldLink RX5 73 "WayLeaves$Line" "plots" "[I" ∈ BG := BG_c1 (i := 114) rfl rfl
theorem kf_X5_92 : Cond.fieldLink RX5 92 "WayLeaves$Land" "day" "I" ∈ BG := BG_c1 (i := 47) rfl rfl
theorem kf_X5_125 : Cond.fieldLink RX5 125 "WayLeaves$Line" "spans" "I" ∈ BG := BG_c1 (i := 111) rfl rfl
theorem kf_X6_9 : Cond.fieldLink RX6 9 "WayLeaves$Line" "heights" "[I" ∈ BG := BG_c1 (i := 112) rfl rfl
theorem kf_X6_15 : Cond.fieldLink RX6 15 "WayLeaves$Line" "plots" "[I" ∈ BG := BG_c1 (i := 113) rfl rfl
theorem kf_X6_18 : Cond.fieldLink RX6 18 "WayLeaves$Line" "lengths" "[I" ∈ BG := BG_c1 (i := 117) rfl rfl
theorem kf_X6_21 : Cond.fieldLink RX6 21 "WayLeaves$Line" "lesserHeights" "[I" ∈ BG := BG_c1 (i := 120) rfl rfl
theorem kf_X6_24 : Cond.fieldLink RX6 24 "WayLeaves$Line" "heats" "[I" ∈ BG := BG_c1 (i := 121) rfl rfl
theorem kf_X6_27 : Cond.fieldLink RX6 27 "WayLeaves$Line" "askDays" "[I" ∈ BG := BG_c1 (i := 122) rfl rfl
theorem kf_X6_30 : Cond.fieldLink RX6 30 "WayLeaves$Line" "land" "LWayLeaves$Land;" ∈ BG := BG_c1 (i := 106) rfl rfl
theorem kf_X6_34 : Cond.fieldLink RX6 34 "WayLeaves$Line" "towers" "I" ∈ BG := BG_c1 (i := 107) rfl rfl
theorem kf_X6_42 : Cond.fieldLink RX6 42 "WayLeaves$Line" "spans" "I" ∈ BG := BG_c1 (i := 109) rfl rfl
theorem kf_X6_58 : Cond.fieldLink RX6 58 "WayLeaves$Land" "told" "[[I" ∈ BG := BG_c1 (i := 59) rfl rfl
theorem kf_X7_9 : Cond.fieldLink RX7 9 "WayLeaves$Looks" "plots" "[I" ∈ BG := BG_c2 (i := 80) rfl rfl
theorem kf_X7_15 : Cond.fieldLink RX7 15 "WayLeaves$Looks" "lowers" "[I" ∈ BG := BG_c2 (i := 81) rfl rfl
theorem kf_X7_18 : Cond.fieldLink RX7 18 "WayLeaves$Looks" "uppers" "[I" ∈ BG := BG_c2 (i := 82) rfl rfl
theorem kf_X7_21 : Cond.fieldLink RX7 21 "WayLeaves$Looks" "count" "I" ∈ BG := BG_c2 (i := 78) rfl rfl
theorem kf_X8_9 : Cond.fieldLink RX8 9 "WayLeaves$Reader" "tape" "[I" ∈ BG := BG_c1 (i := 204) rfl rfl
theorem kf_X8_15 : Cond.fieldLink RX8 15 "WayLeaves$Reader" "tokens" "[I" ∈ BG := BG_c1 (i := 207) rfl rfl
theorem kf_X8_18 : Cond.fieldLink RX8 18 "WayLeaves$Reader" "places" "[I" ∈ BG := BG_c1 (i := 208) rfl rfl
theorem kf_X8_21 : Cond.fieldLink RX8 21 "WayLeaves$Reader" "numbers" "[I" ∈ BG := BG_c1 (i := 209) rfl rfl
theorem kf_X8_24 : Cond.fieldLink RX8 24 "WayLeaves$Reader" "code" "[I" ∈ BG := BG_c1 (i := 212) rfl rfl
theorem kf_X8_27 : Cond.fieldLink RX8 27 "WayLeaves$Reader" "size" "I" ∈ BG := BG_c1 (i := 205) rfl rfl
theorem kf_X8_50 : Cond.fieldLink RX8 50 "WayLeaves$Reader" "at" "I" ∈ BG := BG_c1 (i := 211) rfl rfl
theorem kf_X8_53 : Cond.fieldLink RX8 53 "WayLeaves$Reader" "length" "I" ∈ BG := BG_c1 (i := 215) rfl rfl
theorem kf_X8_55 : Cond.fieldLink RX8 55 "WayLeaves$Reader" "middle" "I" ∈ BG := BG_c1 (i := 217) rfl rfl
theorem kf_X8_62 : Cond.fieldLink RX8 62 "WayLeaves$Reader" "count" "I" ∈ BG := BG_c1 (i := 210) rfl rfl
theorem kf_X9_11 : Cond.fieldLink RX9 11 "WayLeaves$Sheets" "sorts" "[I" ∈ BG := BG_c2 (i := 148) rfl rfl
theorem kf_X9_15 : Cond.fieldLink RX9 15 "WayLeaves$Sheets" "sizes" "[I" ∈ BG := BG_c2 (i := 150) rfl rfl
theorem kf_X9_20 : Cond.fieldLink RX9 20 "WayLeaves$Sheets" "rows" "[[I" ∈ BG := BG_c2 (i := 152) rfl rfl
theorem kf_X9_23 : Cond.fieldLink RX9 23 "WayLeaves$Sheets" "land" "LWayLeaves$Land;" ∈ BG := BG_c2 (i := 147) rfl rfl
theorem kf_X10_9 : Cond.fieldLink RX10 9 "WayLeaves$Ways" "weights" "[I" ∈ BG := BG_c2 (i := 99) rfl rfl
theorem kf_X10_15 : Cond.fieldLink RX10 15 "WayLeaves$Ways" "totals" "[I" ∈ BG := BG_c2 (i := 100) rfl rfl
theorem kf_X10_18 : Cond.fieldLink RX10 18 "WayLeaves$Ways" "land" "LWayLeaves$Land;" ∈ BG := BG_c2 (i := 98) rfl rfl
theorem kf_X10_31 : Cond.fieldLink RX10 31 "WayLeaves$Land" "day" "I" ∈ BG := BG_c1 (i := 43) rfl rfl
theorem kf_X10_41 : Cond.fieldLink RX10 41 "WayLeaves$Land" "told" "[[I" ∈ BG := BG_c1 (i := 57) rfl rfl
theorem kf_X10_45 : Cond.fieldLink RX10 45 "WayLeaves$Land" "holds" "[I" ∈ BG := BG_c1 (i := 54) rfl rfl
theorem kf_X12_15 : Cond.fieldLink RX12 15 "WayLeavesModel" "today" "I" ∈ BG := BG_c6 (i := 154) rfl rfl
theorem kf_X12_26 : Cond.fieldLink RX12 26 "WayLeavesModel" "sales" "I" ∈ BG := BG_c6 (i := 155) rfl rfl
theorem kf_X12_29 : Cond.fieldLink RX12 29 "WayLeavesModel" "salePlot" "[I" ∈ BG := BG_c6 (i := 156) rfl rfl
theorem kf_X12_33 : Cond.fieldLink RX12 33 "WayLeavesModel" "saleOwner" "[I" ∈ BG := BG_c6 (i := 157) rfl rfl
theorem kf_X12_36 : Cond.fieldLink RX12 36 "WayLeavesModel" "saleDay" "[I" ∈ BG := BG_c6 (i := 158) rfl rfl
theorem kf_X12_48 : Cond.fieldLink RX12 48 "WayLeavesModel" "shares" "[I" ∈ BG := BG_c6 (i := 159) rfl rfl
theorem kf_X12_53 : Cond.fieldLink RX12 53 "WayLeavesModel" "roof" "[I" ∈ BG := BG_c6 (i := 160) rfl rfl
theorem kf_X12_56 : Cond.fieldLink RX12 56 "WayLeavesModel" "worthOf" "[I" ∈ BG := BG_c6 (i := 161) rfl rfl
theorem kf_X12_61 : Cond.fieldLink RX12 61 "WayLeavesModel" "cost" "[I" ∈ BG := BG_c6 (i := 162) rfl rfl
theorem kf_X12_64 : Cond.fieldLink RX12 64 "WayLeavesModel" "bar" "[I" ∈ BG := BG_c6 (i := 163) rfl rfl
theorem kf_X12_67 : Cond.fieldLink RX12 67 "WayLeavesModel" "treeHigh" "[I" ∈ BG := BG_c6 (i := 164) rfl rfl
theorem kf_X12_70 : Cond.fieldLink RX12 70 "WayLeavesModel" "treeGrow" "[I" ∈ BG := BG_c6 (i := 165) rfl rfl
theorem kf_X12_73 : Cond.fieldLink RX12 73 "WayLeavesModel" "treeDay" "[I" ∈ BG := BG_c6 (i := 166) rfl rfl
theorem kf_X12_82 : Cond.fieldLink RX12 82 "WayLeavesModel" "towers" "I" ∈ BG := BG_c6 (i := 167) rfl rfl
theorem kf_X12_85 : Cond.fieldLink RX12 85 "WayLeavesModel" "spans" "I" ∈ BG := BG_c6 (i := 170) rfl rfl
theorem kf_X12_92 : Cond.fieldLink RX12 92 "WayLeavesModel" "towerPlot" "[I" ∈ BG := BG_c6 (i := 168) rfl rfl
theorem kf_X12_95 : Cond.fieldLink RX12 95 "WayLeavesModel" "towerHeight" "[I" ∈ BG := BG_c6 (i := 169) rfl rfl
theorem kf_X12_105 : Cond.fieldLink RX12 105 "WayLeavesModel" "spanA" "[I" ∈ BG := BG_c6 (i := 171) rfl rfl
theorem kf_X12_108 : Cond.fieldLink RX12 108 "WayLeavesModel" "spanB" "[I" ∈ BG := BG_c6 (i := 172) rfl rfl
theorem kf_X12_111 : Cond.fieldLink RX12 111 "WayLeavesModel" "spanPlot" "[I" ∈ BG := BG_c6 (i := 173) rfl rfl
theorem kf_X12_114 : Cond.fieldLink RX12 114 "WayLeavesModel" "spanLong" "[I" ∈ BG := BG_c6 (i := 174) rfl rfl
theorem kf_X12_117 : Cond.fieldLink RX12 117 "WayLeavesModel" "spanHeat" "[I" ∈ BG := BG_c6 (i := 175) rfl rfl
theorem kf_X12_120 : Cond.fieldLink RX12 120 "WayLeavesModel" "asking" "[I" ∈ BG := BG_c6 (i := 176) rfl rfl
theorem kf_X12_150 : Cond.fieldLink RX12 150 "WayLeavesModel" "leaves" "I" ∈ BG := BG_c6 (i := 179) rfl rfl
theorem kf_X12_160 : Cond.fieldLink RX12 160 "WayLeavesModel" "spanOf" "[I" ∈ BG := BG_c6 (i := 181) rfl rfl
theorem kf_X12_163 : Cond.fieldLink RX12 163 "WayLeavesModel" "kindOf" "[I" ∈ BG := BG_c6 (i := 180) rfl rfl
theorem kf_X12_166 : Cond.fieldLink RX12 166 "WayLeavesModel" "sumOf" "[I" ∈ BG := BG_c6 (i := 182) rfl rfl
theorem kf_X12_169 : Cond.fieldLink RX12 169 "WayLeavesModel" "begins2" "[I" ∈ BG := BG_c6 (i := 183) rfl rfl
theorem kf_X12_172 : Cond.fieldLink RX12 172 "WayLeavesModel" "hangsOn" "[I" ∈ BG := BG_c6 (i := 184) rfl rfl
theorem kf_X12_175 : Cond.fieldLink RX12 175 "WayLeavesModel" "undone" "[I" ∈ BG := BG_c6 (i := 187) rfl rfl
theorem kf_X12_178 : Cond.fieldLink RX12 178 "WayLeavesModel" "lasts" "[I" ∈ BG := BG_c6 (i := 177) rfl rfl
theorem kf_X12_181 : Cond.fieldLink RX12 181 "WayLeavesModel" "renewed" "[I" ∈ BG := BG_c6 (i := 185) rfl rfl
theorem kf_X12_187 : Cond.fieldLink RX12 187 "WayLeavesModel" "binds" "[I" ∈ BG := BG_c6 (i := 178) rfl rfl
theorem kf_X12_200 : Cond.fieldLink RX12 200 "WayLeavesModel" "isAppealed" "[Z" ∈ BG := BG_c6 (i := 186) rfl rfl
theorem kf_X12_214 : Cond.fieldLink RX12 214 "WayLeavesModel" "comes" "[J" ∈ BG := BG_c6 (i := 188) rfl rfl
theorem kf_X12_228 : Cond.fieldLink RX12 228 "WayLeavesModel" "taped" "I" ∈ BG := BG_c6 (i := 190) rfl rfl
theorem kf_X12_231 : Cond.fieldLink RX12 231 "WayLeavesModel" "tape" "[B" ∈ BG := BG_c6 (i := 189) rfl rfl
theorem kf_X12_235 : Cond.fieldLink RX12 235 "WayLeavesModel" "at" "I" ∈ BG := BG_c6 (i := 195) rfl rfl
theorem kf_X12_241 : Cond.fieldLink RX12 241 "WayLeavesModel" "token" "I" ∈ BG := BG_c6 (i := 196) rfl rfl
theorem kf_X12_244 : Cond.fieldLink RX12 244 "WayLeavesModel" "begins" "[I" ∈ BG := BG_c6 (i := 200) rfl rfl
theorem kf_X12_247 : Cond.fieldLink RX12 247 "WayLeavesModel" "place" "I" ∈ BG := BG_c6 (i := 198) rfl rfl
theorem kf_X12_250 : Cond.fieldLink RX12 250 "WayLeavesModel" "letters" "[C" ∈ BG := BG_c6 (i := 199) rfl rfl
theorem kf_X12_254 : Cond.fieldLink RX12 254 "WayLeavesModel" "worth" "I" ∈ BG := BG_c6 (i := 197) rfl rfl
theorem kf_X12_266 : Cond.fieldLink RX12 266 "WayLeavesModel" "codes" "[I" ∈ BG := BG_c6 (i := 193) rfl rfl
theorem kf_X12_269 : Cond.fieldLink RX12 269 "WayLeavesModel" "codeAt" "I" ∈ BG := BG_c6 (i := 206) rfl rfl
theorem kf_X12_272 : Cond.fieldLink RX12 272 "WayLeavesModel" "made" "I" ∈ BG := BG_c6 (i := 207) rfl rfl
theorem kf_X12_275 : Cond.fieldLink RX12 275 "WayLeavesModel" "waiting" "I" ∈ BG := BG_c6 (i := 202) rfl rfl
theorem kf_X12_278 : Cond.fieldLink RX12 278 "WayLeavesModel" "waits" "[I" ∈ BG := BG_c6 (i := 201) rfl rfl
theorem kf_X12_284 : Cond.fieldLink RX12 284 "WayLeavesModel" "open" "I" ∈ BG := BG_c6 (i := 203) rfl rfl
theorem kf_X12_297 : Cond.fieldLink RX12 297 "WayLeavesModel" "compared" "[Z" ∈ BG := BG_c6 (i := 205) rfl rfl
theorem kf_X12_300 : Cond.fieldLink RX12 300 "WayLeavesModel" "depth" "I" ∈ BG := BG_c6 (i := 204) rfl rfl
theorem kf_X12_313 : Cond.fieldLink RX12 313 "WayLeavesModel" "codeMany" "[I" ∈ BG := BG_c6 (i := 194) rfl rfl
theorem kf_X12_329 : Cond.fieldLink RX12 329 "WayLeavesModel" "texts" "I" ∈ BG := BG_c6 (i := 191) rfl rfl
theorem kf_X12_335 : Cond.fieldLink RX12 335 "WayLeavesModel" "rule" "I" ∈ BG := BG_c6 (i := 192) rfl rfl
theorem kf_X12_338 : Cond.fieldLink RX12 338 "WayLeavesModel" "stack" "[I" ∈ BG := BG_c6 (i := 208) rfl rfl
theorem kf_X12_352 : Cond.fieldLink RX12 352 "WayLeavesModel" "claimOwner" "[I" ∈ BG := BG_c6 (i := 210) rfl rfl
theorem kf_X12_355 : Cond.fieldLink RX12 355 "WayLeavesModel" "claimSpan" "[I" ∈ BG := BG_c6 (i := 211) rfl rfl
theorem kf_X12_358 : Cond.fieldLink RX12 358 "WayLeavesModel" "claimMuch" "[I" ∈ BG := BG_c6 (i := 212) rfl rfl
theorem kf_X12_361 : Cond.fieldLink RX12 361 "WayLeavesModel" "lookPlot" "[I" ∈ BG := BG_c6 (i := 214) rfl rfl
theorem kf_X12_364 : Cond.fieldLink RX12 364 "WayLeavesModel" "lookPrice" "[I" ∈ BG := BG_c6 (i := 215) rfl rfl
theorem kf_X12_367 : Cond.fieldLink RX12 367 "WayLeavesModel" "lookLike" "[I" ∈ BG := BG_c6 (i := 216) rfl rfl
theorem kf_X12_370 : Cond.fieldLink RX12 370 "WayLeavesModel" "hold" "[I" ∈ BG := BG_c6 (i := 217) rfl rfl
theorem kf_X12_373 : Cond.fieldLink RX12 373 "WayLeavesModel" "wayCost" "[I" ∈ BG := BG_c6 (i := 218) rfl rfl
theorem kf_X12_376 : Cond.fieldLink RX12 376 "WayLeavesModel" "wayPlots" "[I" ∈ BG := BG_c6 (i := 219) rfl rfl
theorem kf_X12_379 : Cond.fieldLink RX12 379 "WayLeavesModel" "asked" "[I" ∈ BG := BG_c6 (i := 220) rfl rfl
theorem kf_X12_382 : Cond.fieldLink RX12 382 "WayLeavesModel" "askedEnds" "[I" ∈ BG := BG_c6 (i := 221) rfl rfl
theorem kf_X12_385 : Cond.fieldLink RX12 385 "WayLeavesModel" "orderNow" "[I" ∈ BG := BG_c6 (i := 222) rfl rfl
theorem kf_X12_388 : Cond.fieldLink RX12 388 "WayLeavesModel" "orderBest" "[I" ∈ BG := BG_c6 (i := 223) rfl rfl
theorem kf_X12_391 : Cond.fieldLink RX12 391 "WayLeavesModel" "sorts" "[I" ∈ BG := BG_c6 (i := 226) rfl rfl
theorem kf_X12_394 : Cond.fieldLink RX12 394 "WayLeavesModel" "sizes" "[I" ∈ BG := BG_c6 (i := 227) rfl rfl
theorem kf_X12_397 : Cond.fieldLink RX12 397 "WayLeavesModel" "items" "[I" ∈ BG := BG_c6 (i := 228) rfl rfl
theorem kf_X12_400 : Cond.fieldLink RX12 400 "WayLeavesModel" "moved" "[I" ∈ BG := BG_c6 (i := 229) rfl rfl
theorem kf_X12_406 : Cond.fieldLink RX12 406 "WayLeavesModel" "claims" "I" ∈ BG := BG_c6 (i := 209) rfl rfl
theorem kf_X12_412 : Cond.fieldLink RX12 412 "WayLeavesModel" "looks" "I" ∈ BG := BG_c6 (i := 213) rfl rfl
theorem kf_X12_432 : Cond.fieldLink RX12 432 "WayLeavesModel" "lateBest" "I" ∈ BG := BG_c6 (i := 224) rfl rfl
theorem kf_X12_435 : Cond.fieldLink RX12 435 "WayLeavesModel" "sumBest" "I" ∈ BG := BG_c6 (i := 225) rfl rfl
theorem kf_J0_9 : Cond.fieldLink RJ0 9 "java/lang/String" "value" "[B" ∈ BG := BG_c8 (i := 33) rfl rfl
theorem kf_J0_15 : Cond.fieldLink RJ0 15 "java/lang/String" "coder" "B" ∈ BG := BG_c8 (i := 34) rfl rfl
theorem kf_J0_38 : Cond.fieldLink RJ0 38 "java/lang/String" "COMPACT_STRINGS" "Z" ∈ BG := BG_c2 (i := 176) rfl rfl
theorem kf_J0_1053 : Cond.fieldLink RJ0 1053 "jdk/internal/util/Preconditions" "SIOOBE_FORMATTER" "Ljava/util/function/BiFunction;" ∈ BG := BG_c2 (i := 192) rfl rfl
theorem kf_J2_44 : Cond.fieldLink RJ2 44 "java/lang/StringUTF16" "$assertionsDisabled" "Z" ∈ BG := BG_c2 (i := 210) rfl rfl
theorem kf_J2_59 : Cond.fieldLink RJ2 59 "java/lang/StringUTF16" "HI_BYTE_SHIFT" "I" ∈ BG := BG_c2 (i := 212) rfl rfl
theorem kf_J2_63 : Cond.fieldLink RJ2 63 "java/lang/StringUTF16" "LO_BYTE_SHIFT" "I" ∈ BG := BG_c2 (i := 214) rfl rfl
theorem kc_X11_207 : Cond.constant RX11 207 99999 ∈ BG := BG_c4 (i := 47) rfl rfl
theorem kc_X1_62 : Cond.constant RX1 62 1048576 ∈ BG := BG_c5 (i := 51) rfl rfl
theorem kc_X7_25 : Cond.constant RX7 25 199998 ∈ BG := BG_c4 (i := 213) rfl rfl
theorem kc_X10_30 : Cond.constant RX10 30 2147483647 ∈ BG := BG_c4 (i := 237) rfl rfl
theorem kc_J6_265 : Cond.constant RJ6 265 1431655765 ∈ BG := BG_c5 (i := 31) rfl rfl
theorem kc_J6_266 : Cond.constant RJ6 266 858993459 ∈ BG := BG_c5 (i := 32) rfl rfl
theorem kc_J6_267 : Cond.constant RJ6 267 252645135 ∈ BG := BG_c5 (i := 33) rfl rfl
theorem kc_X11_181 : Cond.constantLong RX11 181 (-4611686018427387904) ∈ BG := BG_c3 (i := 224) rfl rfl
theorem kc_L_91 : Cond.constantLong RL 91 (4294967295) ∈ BG := BG_c8 (i := 32) rfl rfl
theorem kc_X12_3 : Cond.constantLong RX12 3 (9999) ∈ BG := BG_c5 (i := 158) rfl rfl
theorem kc_X12_9 : Cond.constantLong RX12 9 (47) ∈ BG := BG_c5 (i := 153) rfl rfl
theorem kc_X12_11 : Cond.constantLong RX12 11 (9) ∈ BG := BG_c5 (i := 157) rfl rfl
theorem kc_X12_13 : Cond.constantLong RX12 13 (2000) ∈ BG := BG_c5 (i := 142) rfl rfl
theorem kc_X12_46 : Cond.constantLong RX12 46 (99) ∈ BG := BG_c5 (i := 175) rfl rfl
theorem kc_X12_51 : Cond.constantLong RX12 51 (60) ∈ BG := BG_c5 (i := 180) rfl rfl
theorem kc_X12_59 : Cond.constantLong RX12 59 (999) ∈ BG := BG_c5 (i := 181) rfl rfl
theorem kc_X12_76 : Cond.constantLong RX12 76 (40) ∈ BG := BG_c5 (i := 186) rfl rfl
theorem kc_X12_88 : Cond.constantLong RX12 88 (10) ∈ BG := BG_c5 (i := 199) rfl rfl
theorem kc_X12_90 : Cond.constantLong RX12 90 (90) ∈ BG := BG_c5 (i := 200) rfl rfl
theorem kc_X12_101 : Cond.constantLong RX12 101 (50) ∈ BG := BG_c5 (i := 209) rfl rfl
theorem kc_X12_103 : Cond.constantLong RX12 103 (600) ∈ BG := BG_c5 (i := 210) rfl rfl
theorem kc_X12_126 : Cond.constantLong RX12 126 (-20) ∈ BG := BG_c5 (i := 219) rfl rfl
theorem kc_X12_142 : Cond.constantLong RX12 142 (-4611686018427387904) ∈ BG := BG_c5 (i := 224) rfl rfl
theorem kc_X12_153 : Cond.constantLong RX12 153 (5) ∈ BG := BG_c6 (i := 27) rfl rfl
theorem kc_X12_155 : Cond.constantLong RX12 155 (99999) ∈ BG := BG_c6 (i := 28) rfl rfl
theorem kc_X12_226 : Cond.constantLong RX12 226 (8) ∈ BG := BG_c6 (i := 77) rfl rfl
theorem kc_X12_452 : Cond.constantLong RX12 452 (3) ∈ BG := BG_c8 (i := 9) rfl rfl
theorem kc_X12_457 : Cond.constantLong RX12 457 (-1) ∈ BG := BG_c8 (i := 10) rfl rfl
theorem kc_X12_459 : Cond.constantLong RX12 459 (2) ∈ BG := BG_c8 (i := 11) rfl rfl
theorem kt_X11_96 : TV RX11 96 yX8_takeTheAct cX8_takeTheAct 2 none 0 := ⟨BG_c2 (i := 166) rfl rfl, BG_c1 (i := 7) rfl rfl, BG_c2 (i := 163) rfl rfl, ⟨BG_c2 (i := 164) rfl rfl, BG_c2 (i := 165) rfl rfl⟩, ⟨by decide +kernel, by decide +kernel, by decide +kernel⟩⟩
theorem kt_X11_99 : TV RX11 99 yX8_readTape cX8_readTape 2 (some .int) 0 := ⟨BG_c2 (i := 223) rfl rfl, BG_c1 (i := 7) rfl rfl, BG_c2 (i := 220) rfl rfl, ⟨BG_c2 (i := 221) rfl rfl, BG_c2 (i := 222) rfl rfl⟩, ⟨by decide +kernel, by decide +kernel, by decide +kernel⟩⟩
theorem kt_X11_103 : TV RX11 103 yX0_keep cX0_keep 2 (some .int) 1 := ⟨BG_c3 (i := 73) rfl rfl, BG_c1 (i := 8) rfl rfl, BG_c3 (i := 70) rfl rfl, ⟨BG_c3 (i := 71) rfl rfl, BG_c3 (i := 72) rfl rfl⟩, ⟨by decide +kernel, by decide +kernel, by decide +kernel⟩⟩
theorem kt_X11_107 : TS RX11 107 yX11_within cX11_within 3 (some .boolean) 3 := ⟨BG_c3 (i := 5) rfl rfl, BG_c1 (i := 1) rfl rfl, BG_c3 (i := 116) rfl rfl, BG_c3 (i := 4) rfl rfl, ⟨by decide +kernel, by decide +kernel, by decide +kernel⟩⟩
theorem kt_X11_115 : TS RX11 115 yX11_isPlot cX11_isPlot 1 (some .boolean) 1 := ⟨BG_c3 (i := 123) rfl rfl, BG_c1 (i := 1) rfl rfl, BG_c3 (i := 121) rfl rfl, BG_c3 (i := 122) rfl rfl, ⟨by decide +kernel, by decide +kernel, by decide +kernel⟩⟩
theorem kt_X11_119 : TS RX11 119 yX11_isOwner cX11_isOwner 1 (some .boolean) 1 := ⟨BG_c3 (i := 126) rfl rfl, BG_c1 (i := 1) rfl rfl, BG_c3 (i := 124) rfl rfl, BG_c3 (i := 125) rfl rfl, ⟨by decide +kernel, by decide +kernel, by decide +kernel⟩⟩
theorem kt_X11_122 : TV RX11 122 yX4_isStillToCome cX4_isStillToCome 2 (some .boolean) 1 := ⟨BG_c3 (i := 130) rfl rfl, BG_c1 (i := 2) rfl rfl, BG_c3 (i := 127) rfl rfl, ⟨BG_c3 (i := 128) rfl rfl, BG_c3 (i := 129) rfl rfl⟩, ⟨by decide +kernel, by decide +kernel, by decide +kernel⟩⟩
theorem kt_X11_128 : TV RX11 128 yX4_addSale cX4_addSale 4 (some .int) 3 := ⟨BG_c3 (i := 135) rfl rfl, BG_c1 (i := 2) rfl rfl, BG_c3 (i := 132) rfl rfl, ⟨BG_c3 (i := 133) rfl rfl, BG_c3 (i := 134) rfl rfl⟩, ⟨by decide +kernel, by decide +kernel, by decide +kernel⟩⟩
theorem kt_X11_132 : TS RX11 132 yX11_isDay cX11_isDay 1 (some .boolean) 1 := ⟨BG_c3 (i := 142) rfl rfl, BG_c1 (i := 1) rfl rfl, BG_c3 (i := 140) rfl rfl, BG_c3 (i := 141) rfl rfl, ⟨by decide +kernel, by decide +kernel, by decide +kernel⟩⟩
theorem kt_X11_135 : TV RX11 135 yX4_ownerOn cX4_ownerOn 6 (some .int) 2 := ⟨BG_c3 (i := 146) rfl rfl, BG_c1 (i := 2) rfl rfl, BG_c3 (i := 143) rfl rfl, ⟨BG_c3 (i := 144) rfl rfl, BG_c3 (i := 145) rfl rfl⟩, ⟨by decide +kernel, by decide +kernel, by decide +kernel⟩⟩
theorem kt_X11_139 : TV RX11 139 yX3_giveShares cX3_giveShares 5 (some .int) 3 := ⟨BG_c3 (i := 154) rfl rfl, BG_c1 (i := 4) rfl rfl, BG_c3 (i := 151) rfl rfl, ⟨BG_c3 (i := 152) rfl rfl, BG_c3 (i := 153) rfl rfl⟩, ⟨by decide +kernel, by decide +kernel, by decide +kernel⟩⟩
theorem kt_X11_149 : TV RX11 149 yX4_tell cX4_tell 5 (some .int) 3 := ⟨BG_c3 (i := 166) rfl rfl, BG_c1 (i := 2) rfl rfl, BG_c3 (i := 163) rfl rfl, ⟨BG_c3 (i := 164) rfl rfl, BG_c3 (i := 165) rfl rfl⟩, ⟨by decide +kernel, by decide +kernel, by decide +kernel⟩⟩
theorem kt_X11_152 : TV RX11 152 yX4_plant cX4_plant 5 (some .int) 3 := ⟨BG_c3 (i := 174) rfl rfl, BG_c1 (i := 2) rfl rfl, BG_c3 (i := 171) rfl rfl, ⟨BG_c3 (i := 172) rfl rfl, BG_c3 (i := 173) rfl rfl⟩, ⟨by decide +kernel, by decide +kernel, by decide +kernel⟩⟩
theorem kt_X11_155 : TV RX11 155 yX4_treesNow cX4_treesNow 2 (some .int) 1 := ⟨BG_c3 (i := 178) rfl rfl, BG_c1 (i := 2) rfl rfl, BG_c3 (i := 183) rfl rfl, ⟨BG_c3 (i := 176) rfl rfl, BG_c3 (i := 177) rfl rfl⟩, ⟨by decide +kernel, by decide +kernel, by decide +kernel⟩⟩
theorem kt_X11_162 : TV RX11 162 yX6_addTower cX6_addTower 2 (some .int) 1 := ⟨BG_c3 (i := 191) rfl rfl, BG_c1 (i := 5) rfl rfl, BG_c3 (i := 188) rfl rfl, ⟨BG_c3 (i := 189) rfl rfl, BG_c3 (i := 190) rfl rfl⟩, ⟨by decide +kernel, by decide +kernel, by decide +kernel⟩⟩
theorem kt_X11_165 : TV RX11 165 yX6_isTower cX6_isTower 2 (some .boolean) 1 := ⟨BG_c3 (i := 199) rfl rfl, BG_c1 (i := 5) rfl rfl, BG_c3 (i := 196) rfl rfl, ⟨BG_c3 (i := 197) rfl rfl, BG_c3 (i := 198) rfl rfl⟩, ⟨by decide +kernel, by decide +kernel, by decide +kernel⟩⟩
theorem kt_X11_171 : TV RX11 171 yX6_addSpan cX6_addSpan 5 (some .int) 4 := ⟨BG_c3 (i := 204) rfl rfl, BG_c1 (i := 5) rfl rfl, BG_c3 (i := 201) rfl rfl, ⟨BG_c3 (i := 202) rfl rfl, BG_c3 (i := 203) rfl rfl⟩, ⟨by decide +kernel, by decide +kernel, by decide +kernel⟩⟩
theorem kt_X11_175 : TV RX11 175 yX6_isSpan cX6_isSpan 2 (some .boolean) 1 := ⟨BG_c3 (i := 215) rfl rfl, BG_c1 (i := 5) rfl rfl, BG_c3 (i := 212) rfl rfl, ⟨BG_c3 (i := 213) rfl rfl, BG_c3 (i := 214) rfl rfl⟩, ⟨by decide +kernel, by decide +kernel, by decide +kernel⟩⟩
theorem kt_X11_178 : TV RX11 178 yX6_changeHeat cX6_changeHeat 4 (some .int) 2 := ⟨BG_c3 (i := 219) rfl rfl, BG_c1 (i := 5) rfl rfl, BG_c3 (i := 216) rfl rfl, ⟨BG_c3 (i := 217) rfl rfl, BG_c3 (i := 218) rfl rfl⟩, ⟨by decide +kernel, by decide +kernel, by decide +kernel⟩⟩
theorem kt_X11_189 : TV RX11 189 yX6_sag cX6_sag 4 (some .int) 1 := ⟨BG_c3 (i := 228) rfl rfl, BG_c1 (i := 5) rfl rfl, BG_c3 (i := 225) rfl rfl, ⟨BG_c3 (i := 226) rfl rfl, BG_c3 (i := 227) rfl rfl⟩, ⟨by decide +kernel, by decide +kernel, by decide +kernel⟩⟩
theorem kt_X11_192 : TV RX11 192 yX6_low cX6_low 2 (some .int) 1 := ⟨BG_c3 (i := 232) rfl rfl, BG_c1 (i := 5) rfl rfl, BG_c3 (i := 229) rfl rfl, ⟨BG_c3 (i := 230) rfl rfl, BG_c3 (i := 231) rfl rfl⟩, ⟨by decide +kernel, by decide +kernel, by decide +kernel⟩⟩
theorem kt_X11_195 : TV RX11 195 yX6_near cX6_near 3 (some .int) 1 := ⟨BG_c3 (i := 237) rfl rfl, BG_c1 (i := 5) rfl rfl, BG_c3 (i := 234) rfl rfl, ⟨BG_c3 (i := 235) rfl rfl, BG_c3 (i := 236) rfl rfl⟩, ⟨by decide +kernel, by decide +kernel, by decide +kernel⟩⟩
theorem kt_X11_198 : TV RX11 198 yX6_isTooNear cX6_isTooNear 2 (some .boolean) 1 := ⟨BG_c4 (i := 6) rfl rfl, BG_c1 (i := 5) rfl rfl, BG_c4 (i := 3) rfl rfl, ⟨BG_c4 (i := 4) rfl rfl, BG_c4 (i := 5) rfl rfl⟩, ⟨by decide +kernel, by decide +kernel, by decide +kernel⟩⟩
theorem kt_X11_201 : TV RX11 201 yX5_ends cX5_ends 4 (some .int) 1 := ⟨BG_c4 (i := 11) rfl rfl, BG_c1 (i := 6) rfl rfl, BG_c4 (i := 8) rfl rfl, ⟨BG_c4 (i := 9) rfl rfl, BG_c4 (i := 10) rfl rfl⟩, ⟨by decide +kernel, by decide +kernel, by decide +kernel⟩⟩
theorem kt_X11_208 : TV RX11 208 yX5_isLeave cX5_isLeave 2 (some .boolean) 1 := ⟨BG_c4 (i := 51) rfl rfl, BG_c1 (i := 6) rfl rfl, BG_c4 (i := 48) rfl rfl, ⟨BG_c4 (i := 49) rfl rfl, BG_c4 (i := 50) rfl rfl⟩, ⟨by decide +kernel, by decide +kernel, by decide +kernel⟩⟩
theorem kt_X11_216 : TV RX11 216 yX5_add cX5_add 6 (some .int) 5 := ⟨BG_c4 (i := 56) rfl rfl, BG_c1 (i := 6) rfl rfl, BG_c4 (i := 53) rfl rfl, ⟨BG_c4 (i := 54) rfl rfl, BG_c4 (i := 55) rfl rfl⟩, ⟨by decide +kernel, by decide +kernel, by decide +kernel⟩⟩
theorem kt_X11_226 : TV RX11 226 yX5_lasts cX5_lasts 2 (some .int) 1 := ⟨BG_c4 (i := 27) rfl rfl, BG_c1 (i := 6) rfl rfl, BG_c4 (i := 61) rfl rfl, ⟨BG_c4 (i := 25) rfl rfl, BG_c4 (i := 26) rfl rfl⟩, ⟨by decide +kernel, by decide +kernel, by decide +kernel⟩⟩
theorem kt_X11_232 : TV RX11 232 yX5_yearlyOf cX5_yearlyOf 3 (some .int) 1 := ⟨BG_c4 (i := 66) rfl rfl, BG_c1 (i := 6) rfl rfl, BG_c4 (i := 63) rfl rfl, ⟨BG_c4 (i := 64) rfl rfl, BG_c4 (i := 65) rfl rfl⟩, ⟨by decide +kernel, by decide +kernel, by decide +kernel⟩⟩
theorem kt_X11_235 : TV RX11 235 yX5_isInForce cX5_isInForce 3 (some .boolean) 2 := ⟨BG_c4 (i := 70) rfl rfl, BG_c1 (i := 6) rfl rfl, BG_c4 (i := 67) rfl rfl, ⟨BG_c4 (i := 68) rfl rfl, BG_c4 (i := 69) rfl rfl⟩, ⟨by decide +kernel, by decide +kernel, by decide +kernel⟩⟩
theorem kt_X11_249 : TV RX11 249 yX5_hangingOn cX5_hangingOn 4 (some .int) 1 := ⟨BG_c4 (i := 86) rfl rfl, BG_c1 (i := 6) rfl rfl, BG_c4 (i := 83) rfl rfl, ⟨BG_c4 (i := 84) rfl rfl, BG_c4 (i := 85) rfl rfl⟩, ⟨by decide +kernel, by decide +kernel, by decide +kernel⟩⟩
theorem kt_X11_252 : TV RX11 252 yX5_hasOn cX5_hasOn 5 (some .int) 2 := ⟨BG_c4 (i := 15) rfl rfl, BG_c1 (i := 6) rfl rfl, BG_c4 (i := 91) rfl rfl, ⟨BG_c4 (i := 13) rfl rfl, BG_c4 (i := 14) rfl rfl⟩, ⟨by decide +kernel, by decide +kernel, by decide +kernel⟩⟩
theorem kt_X11_255 : TV RX11 255 yX5_yearlyTo cX5_yearlyTo 4 (some .long) 2 := ⟨BG_c4 (i := 99) rfl rfl, BG_c1 (i := 6) rfl rfl, BG_c4 (i := 96) rfl rfl, ⟨BG_c4 (i := 97) rfl rfl, BG_c4 (i := 98) rfl rfl⟩, ⟨by decide +kernel, by decide +kernel, by decide +kernel⟩⟩
theorem kt_X11_262 : TV RX11 262 yX8_take cX8_take 2 none 1 := ⟨BG_c2 (i := 219) rfl rfl, BG_c1 (i := 7) rfl rfl, BG_c4 (i := 124) rfl rfl, ⟨BG_c2 (i := 217) rfl rfl, BG_c2 (i := 218) rfl rfl⟩, ⟨by decide +kernel, by decide +kernel, by decide +kernel⟩⟩
theorem kt_X11_270 : TV RX11 270 yX0_comesTo cX0_comesTo 7 (some .int) 2 := ⟨BG_c4 (i := 140) rfl rfl, BG_c1 (i := 8) rfl rfl, BG_c4 (i := 137) rfl rfl, ⟨BG_c4 (i := 138) rfl rfl, BG_c4 (i := 139) rfl rfl⟩, ⟨by decide +kernel, by decide +kernel, by decide +kernel⟩⟩
theorem kt_X11_274 : TV RX11 274 yX2_add cX2_add 4 (some .int) 3 := ⟨BG_c4 (i := 173) rfl rfl, BG_c1 (i := 9) rfl rfl, BG_c4 (i := 170) rfl rfl, ⟨BG_c4 (i := 171) rfl rfl, BG_c4 (i := 172) rfl rfl⟩, ⟨by decide +kernel, by decide +kernel, by decide +kernel⟩⟩
theorem kt_X11_279 : TV RX11 279 yX2_dueTo cX2_dueTo 4 (some .long) 1 := ⟨BG_c4 (i := 189) rfl rfl, BG_c1 (i := 9) rfl rfl, BG_c4 (i := 186) rfl rfl, ⟨BG_c4 (i := 187) rfl rfl, BG_c4 (i := 188) rfl rfl⟩, ⟨by decide +kernel, by decide +kernel, by decide +kernel⟩⟩
theorem kt_X11_284 : TV RX11 284 yX7_add cX7_add 5 (some .int) 3 := ⟨BG_c4 (i := 204) rfl rfl, BG_c1 (i := 10) rfl rfl, BG_c4 (i := 201) rfl rfl, ⟨BG_c4 (i := 202) rfl rfl, BG_c4 (i := 203) rfl rfl⟩, ⟨by decide +kernel, by decide +kernel, by decide +kernel⟩⟩
theorem kt_X11_285 : TV RX11 285 yX7_boundOf cX7_boundOf 6 (some .int) 2 := ⟨BG_c4 (i := 212) rfl rfl, BG_c1 (i := 10) rfl rfl, BG_c4 (i := 209) rfl rfl, ⟨BG_c4 (i := 210) rfl rfl, BG_c4 (i := 211) rfl rfl⟩, ⟨by decide +kernel, by decide +kernel, by decide +kernel⟩⟩
theorem kt_X11_291 : TV RX11 291 yX10_leastCost cX10_leastCost 6 (some .int) 4 := ⟨BG_c4 (i := 227) rfl rfl, BG_c1 (i := 11) rfl rfl, BG_c4 (i := 224) rfl rfl, ⟨BG_c4 (i := 225) rfl rfl, BG_c4 (i := 226) rfl rfl⟩, ⟨by decide +kernel, by decide +kernel, by decide +kernel⟩⟩
theorem kt_X11_294 : TV RX11 294 yX10_plotAt cX10_plotAt 5 (some .int) 2 := ⟨BG_c5 (i := 10) rfl rfl, BG_c1 (i := 11) rfl rfl, BG_c5 (i := 7) rfl rfl, ⟨BG_c5 (i := 8) rfl rfl, BG_c5 (i := 9) rfl rfl⟩, ⟨by decide +kernel, by decide +kernel, by decide +kernel⟩⟩
theorem kt_X11_297 : TS RX11 297 yJ6_bitCount_0f7a4 cJ6_bitCount_0f7a4 1 (some .int) 1 := ⟨BG_c5 (i := 30) rfl rfl, BG_c1 (i := 21) rfl rfl, BG_c5 (i := 28) rfl rfl, BG_c5 (i := 29) rfl rfl, ⟨by decide +kernel, by decide +kernel, by decide +kernel⟩⟩
theorem kt_X11_302 : TV RX11 302 yX1_choose cX1_choose 5 none 1 := ⟨BG_c5 (i := 37) rfl rfl, BG_c1 (i := 12) rfl rfl, BG_c5 (i := 34) rfl rfl, ⟨BG_c5 (i := 35) rfl rfl, BG_c5 (i := 36) rfl rfl⟩, ⟨by decide +kernel, by decide +kernel, by decide +kernel⟩⟩
theorem kt_X11_305 : TV RX11 305 yX1_arrange cX1_arrange 3 none 0 := ⟨BG_c5 (i := 42) rfl rfl, BG_c1 (i := 12) rfl rfl, BG_c5 (i := 39) rfl rfl, ⟨BG_c5 (i := 40) rfl rfl, BG_c5 (i := 41) rfl rfl⟩, ⟨by decide +kernel, by decide +kernel, by decide +kernel⟩⟩
theorem kt_X11_308 : TV RX11 308 yX1_late cX1_late 1 (some .int) 0 := ⟨BG_c5 (i := 55) rfl rfl, BG_c1 (i := 12) rfl rfl, BG_c5 (i := 52) rfl rfl, ⟨BG_c5 (i := 53) rfl rfl, BG_c5 (i := 54) rfl rfl⟩, ⟨by decide +kernel, by decide +kernel, by decide +kernel⟩⟩
theorem kt_X11_311 : TV RX11 311 yX1_spanAt cX1_spanAt 5 (some .int) 1 := ⟨BG_c5 (i := 59) rfl rfl, BG_c1 (i := 12) rfl rfl, BG_c5 (i := 56) rfl rfl, ⟨BG_c5 (i := 57) rfl rfl, BG_c5 (i := 58) rfl rfl⟩, ⟨by decide +kernel, by decide +kernel, by decide +kernel⟩⟩
theorem kt_X11_314 : TV RX11 314 yX5_bareSpans cX5_bareSpans 3 (some .int) 0 := ⟨BG_c5 (i := 68) rfl rfl, BG_c1 (i := 6) rfl rfl, BG_c5 (i := 65) rfl rfl, ⟨BG_c5 (i := 66) rfl rfl, BG_c5 (i := 67) rfl rfl⟩, ⟨by decide +kernel, by decide +kernel, by decide +kernel⟩⟩
theorem kt_X11_317 : TV RX11 317 yX6_tooNearSpans cX6_tooNearSpans 3 (some .int) 0 := ⟨BG_c5 (i := 72) rfl rfl, BG_c1 (i := 5) rfl rfl, BG_c5 (i := 69) rfl rfl, ⟨BG_c5 (i := 70) rfl rfl, BG_c5 (i := 71) rfl rfl⟩, ⟨by decide +kernel, by decide +kernel, by decide +kernel⟩⟩
theorem kt_X11_320 : TV RX11 320 yX9_isSheet cX9_isSheet 2 (some .boolean) 1 := ⟨BG_c5 (i := 81) rfl rfl, BG_c1 (i := 13) rfl rfl, BG_c5 (i := 78) rfl rfl, ⟨BG_c5 (i := 79) rfl rfl, BG_c5 (i := 80) rfl rfl⟩, ⟨by decide +kernel, by decide +kernel, by decide +kernel⟩⟩
theorem kt_X11_323 : TV RX11 323 yX9_remove cX9_remove 2 (some .int) 1 := ⟨BG_c5 (i := 86) rfl rfl, BG_c1 (i := 13) rfl rfl, BG_c5 (i := 83) rfl rfl, ⟨BG_c5 (i := 84) rfl rfl, BG_c5 (i := 85) rfl rfl⟩, ⟨by decide +kernel, by decide +kernel, by decide +kernel⟩⟩
theorem kt_X11_326 : TV RX11 326 yX9_lay cX9_lay 4 (some .int) 3 := ⟨BG_c5 (i := 90) rfl rfl, BG_c1 (i := 13) rfl rfl, BG_c5 (i := 87) rfl rfl, ⟨BG_c5 (i := 88) rfl rfl, BG_c5 (i := 89) rfl rfl⟩, ⟨by decide +kernel, by decide +kernel, by decide +kernel⟩⟩
theorem kt_X11_329 : TV RX11 329 yX9_isMissing cX9_isMissing 2 (some .boolean) 1 := ⟨BG_c5 (i := 98) rfl rfl, BG_c1 (i := 13) rfl rfl, BG_c5 (i := 95) rfl rfl, ⟨BG_c5 (i := 96) rfl rfl, BG_c5 (i := 97) rfl rfl⟩, ⟨by decide +kernel, by decide +kernel, by decide +kernel⟩⟩
theorem kt_X11_335 : TV RX11 335 yX9_write cX9_write 4 (some .int) 3 := ⟨BG_c5 (i := 102) rfl rfl, BG_c1 (i := 13) rfl rfl, BG_c5 (i := 99) rfl rfl, ⟨BG_c5 (i := 100) rfl rfl, BG_c5 (i := 101) rfl rfl⟩, ⟨by decide +kernel, by decide +kernel, by decide +kernel⟩⟩
theorem kt_X11_341 : TV RX11 341 yX9_hasPlaces cX9_hasPlaces 4 (some .boolean) 3 := ⟨BG_c5 (i := 113) rfl rfl, BG_c1 (i := 13) rfl rfl, BG_c5 (i := 110) rfl rfl, ⟨BG_c5 (i := 111) rfl rfl, BG_c5 (i := 112) rfl rfl⟩, ⟨by decide +kernel, by decide +kernel, by decide +kernel⟩⟩
theorem kt_X11_354 : TV RX11 354 yX9_tellCosts cX9_tellCosts 8 (some .int) 4 := ⟨BG_c5 (i := 122) rfl rfl, BG_c1 (i := 13) rfl rfl, BG_c5 (i := 119) rfl rfl, ⟨BG_c5 (i := 120) rfl rfl, BG_c5 (i := 121) rfl rfl⟩, ⟨by decide +kernel, by decide +kernel, by decide +kernel⟩⟩
theorem kt_X11_357 : TV RX11 357 yX5_isUnder cX5_isUnder 5 (some .boolean) 2 := ⟨BG_c5 (i := 135) rfl rfl, BG_c1 (i := 6) rfl rfl, BG_c5 (i := 132) rfl rfl, ⟨BG_c5 (i := 133) rfl rfl, BG_c5 (i := 134) rfl rfl⟩, ⟨by decide +kernel, by decide +kernel, by decide +kernel⟩⟩
theorem kt_X0_61 : TV RX0 61 yX0_push cX0_push 2 none 1 := ⟨BG_c4 (i := 144) rfl rfl, BG_c1 (i := 8) rfl rfl, BG_c4 (i := 141) rfl rfl, ⟨BG_c4 (i := 143) rfl rfl, BG_se (i := 19) (by decide +kernel) rfl⟩, ⟨by decide +kernel, by decide +kernel, by decide +kernel⟩⟩
theorem kt_X0_69 : TV RX0 69 yX0_named cX0_named 4 (some .int) 2 := ⟨BG_c4 (i := 149) rfl rfl, BG_c1 (i := 8) rfl rfl, BG_c4 (i := 146) rfl rfl, ⟨BG_c4 (i := 148) rfl rfl, BG_se (i := 20) (by decide +kernel) rfl⟩, ⟨by decide +kernel, by decide +kernel, by decide +kernel⟩⟩
theorem kt_X0_73 : TV RX0 73 yX0_pull cX0_pull 1 (some .int) 0 := ⟨BG_c4 (i := 155) rfl rfl, BG_c1 (i := 8) rfl rfl, BG_c4 (i := 152) rfl rfl, ⟨BG_c4 (i := 154) rfl rfl, BG_se (i := 21) (by decide +kernel) rfl⟩, ⟨by decide +kernel, by decide +kernel, by decide +kernel⟩⟩
theorem kt_X0_77 : TS RX0 77 yX0_truth cX0_truth 1 (some .int) 1 := ⟨BG_c4 (i := 158) rfl rfl, BG_c1 (i := 8) rfl rfl, BG_c4 (i := 156) rfl rfl, BG_c4 (i := 157) rfl rfl, ⟨by decide +kernel, by decide +kernel, by decide +kernel⟩⟩
theorem kt_X0_81 : TV RX0 81 yX0_join cX0_join 4 none 1 := ⟨BG_c4 (i := 162) rfl rfl, BG_c1 (i := 8) rfl rfl, BG_c4 (i := 159) rfl rfl, ⟨BG_c4 (i := 161) rfl rfl, BG_se (i := 22) (by decide +kernel) rfl⟩, ⟨by decide +kernel, by decide +kernel, by decide +kernel⟩⟩
theorem kt_X0_84 : TS RX0 84 yX0_joined cX0_joined 3 (some .int) 3 := ⟨BG_c4 (i := 165) rfl rfl, BG_c1 (i := 8) rfl rfl, BG_c4 (i := 163) rfl rfl, BG_c4 (i := 164) rfl rfl, ⟨by decide +kernel, by decide +kernel, by decide +kernel⟩⟩
theorem kt_X0_99 : TV RX0 99 yX6_near cX6_near 3 (some .int) 1 := ⟨BG_c3 (i := 237) rfl rfl, BG_c1 (i := 5) rfl rfl, BG_c4 (i := 150) rfl rfl, ⟨BG_c3 (i := 235) rfl rfl, BG_c3 (i := 236) rfl rfl⟩, ⟨by decide +kernel, by decide +kernel, by decide +kernel⟩⟩
theorem kt_X0_103 : TV RX0 103 yX4_treesNow cX4_treesNow 2 (some .int) 1 := ⟨BG_c3 (i := 178) rfl rfl, BG_c1 (i := 2) rfl rfl, BG_c4 (i := 151) rfl rfl, ⟨BG_c3 (i := 176) rfl rfl, BG_c3 (i := 177) rfl rfl⟩, ⟨by decide +kernel, by decide +kernel, by decide +kernel⟩⟩
theorem kt_X1_50 : TV RX1 50 yX5_ends cX5_ends 4 (some .int) 1 := ⟨BG_c4 (i := 11) rfl rfl, BG_c1 (i := 6) rfl rfl, BG_c5 (i := 38) rfl rfl, ⟨BG_c4 (i := 9) rfl rfl, BG_c4 (i := 10) rfl rfl⟩, ⟨by decide +kernel, by decide +kernel, by decide +kernel⟩⟩
theorem kt_X1_55 : TV RX1 55 yX1_leastNext cX1_leastNext 5 (some .int) 1 := ⟨BG_c5 (i := 46) rfl rfl, BG_c1 (i := 12) rfl rfl, BG_c5 (i := 43) rfl rfl, ⟨BG_c5 (i := 45) rfl rfl, BG_se (i := 28) (by decide +kernel) rfl⟩, ⟨by decide +kernel, by decide +kernel, by decide +kernel⟩⟩
theorem kt_X1_58 : TV RX1 58 yX1_weightBehind cX1_weightBehind 5 (some .int) 2 := ⟨BG_c5 (i := 50) rfl rfl, BG_c1 (i := 12) rfl rfl, BG_c5 (i := 47) rfl rfl, ⟨BG_c5 (i := 49) rfl rfl, BG_se (i := 29) (by decide +kernel) rfl⟩, ⟨by decide +kernel, by decide +kernel, by decide +kernel⟩⟩
theorem kt_X2_37 : TV RX2 37 yX2_wasMade cX2_wasMade 4 (some .boolean) 2 := ⟨BG_c4 (i := 177) rfl rfl, BG_c1 (i := 9) rfl rfl, BG_c4 (i := 174) rfl rfl, ⟨BG_c4 (i := 176) rfl rfl, BG_se (i := 23) (by decide +kernel) rfl⟩, ⟨by decide +kernel, by decide +kernel, by decide +kernel⟩⟩
theorem kt_X2_48 : TV RX2 48 yX3_emptyTill cX3_emptyTill 1 none 0 := ⟨BG_c4 (i := 103) rfl rfl, BG_c1 (i := 4) rfl rfl, BG_c4 (i := 190) rfl rfl, ⟨BG_c4 (i := 101) rfl rfl, BG_c4 (i := 102) rfl rfl⟩, ⟨by decide +kernel, by decide +kernel, by decide +kernel⟩⟩
theorem kt_X2_58 : TV RX2 58 yX5_hasOn cX5_hasOn 5 (some .int) 2 := ⟨BG_c4 (i := 15) rfl rfl, BG_c1 (i := 6) rfl rfl, BG_c4 (i := 191) rfl rfl, ⟨BG_c4 (i := 13) rfl rfl, BG_c4 (i := 14) rfl rfl⟩, ⟨by decide +kernel, by decide +kernel, by decide +kernel⟩⟩
theorem kt_X2_64 : TV RX2 64 yX0_comesTo cX0_comesTo 7 (some .int) 2 := ⟨BG_c4 (i := 140) rfl rfl, BG_c1 (i := 8) rfl rfl, BG_c4 (i := 192) rfl rfl, ⟨BG_c4 (i := 138) rfl rfl, BG_c4 (i := 139) rfl rfl⟩, ⟨by decide +kernel, by decide +kernel, by decide +kernel⟩⟩
theorem kt_X2_69 : Cond.methodLink RX2 69 Lib.Math.min.name ∈ BG := BG_c4 (i := 193) rfl rfl
theorem kt_X2_74 : Cond.methodLink RX2 74 Lib.Math.max.name ∈ BG := BG_c4 (i := 194) rfl rfl
theorem kt_X2_77 : TV RX2 77 yX3_pay cX3_pay 4 none 2 := ⟨BG_c4 (i := 111) rfl rfl, BG_c1 (i := 4) rfl rfl, BG_c4 (i := 195) rfl rfl, ⟨BG_c4 (i := 109) rfl rfl, BG_c4 (i := 110) rfl rfl⟩, ⟨by decide +kernel, by decide +kernel, by decide +kernel⟩⟩
theorem kt_X2_81 : TV RX2 81 yX3_comesTo cX3_comesTo 5 (some .long) 1 := ⟨BG_c4 (i := 115) rfl rfl, BG_c1 (i := 4) rfl rfl, BG_c4 (i := 196) rfl rfl, ⟨BG_c4 (i := 113) rfl rfl, BG_c4 (i := 114) rfl rfl⟩, ⟨by decide +kernel, by decide +kernel, by decide +kernel⟩⟩
theorem kt_X3_20 : TS RX3 20 yJ7_fill_d0a16 cJ7_fill_d0a16 5 none 2 := ⟨BG_c4 (i := 106) rfl rfl, BG_c1 (i := 3) rfl rfl, BG_c4 (i := 104) rfl rfl, BG_c4 (i := 105) rfl rfl, ⟨by decide +kernel, by decide +kernel, by decide +kernel⟩⟩
theorem kt_X3_26 : TV RX3 26 yX3_part cX3_part 9 (some .long) 2 := ⟨BG_c4 (i := 119) rfl rfl, BG_c1 (i := 4) rfl rfl, BG_c4 (i := 116) rfl rfl, ⟨BG_c4 (i := 118) rfl rfl, BG_se (i := 18) (by decide +kernel) rfl⟩, ⟨by decide +kernel, by decide +kernel, by decide +kernel⟩⟩
theorem kt_X4_38 : TS RX4 38 yJ7_fill_53178 cJ7_fill_53178 4 none 2 := ⟨BG_c1 (i := 40) rfl rfl, BG_c1 (i := 3) rfl rfl, BG_c1 (i := 38) rfl rfl, BG_c1 (i := 39) rfl rfl, ⟨by decide +kernel, by decide +kernel, by decide +kernel⟩⟩
theorem kt_X4_55 : Cond.methodLink RX4 55 Lib.Math.min.name ∈ BG := BG_c4 (i := 41) rfl rfl
theorem kt_X4_61 : TV RX4 61 yX4_treesNow cX4_treesNow 2 (some .int) 1 := ⟨BG_c3 (i := 178) rfl rfl, BG_c1 (i := 2) rfl rfl, BG_c3 (i := 175) rfl rfl, ⟨BG_c3 (i := 176) rfl rfl, BG_c3 (i := 177) rfl rfl⟩, ⟨by decide +kernel, by decide +kernel, by decide +kernel⟩⟩
theorem kt_X5_66 : TV RX5 66 yX5_lasts cX5_lasts 2 (some .int) 1 := ⟨BG_c4 (i := 27) rfl rfl, BG_c1 (i := 6) rfl rfl, BG_c4 (i := 24) rfl rfl, ⟨BG_c4 (i := 25) rfl rfl, BG_c4 (i := 26) rfl rfl⟩, ⟨by decide +kernel, by decide +kernel, by decide +kernel⟩⟩
theorem kt_X5_78 : TV RX5 78 yX4_ownerOn cX4_ownerOn 6 (some .int) 2 := ⟨BG_c3 (i := 146) rfl rfl, BG_c1 (i := 2) rfl rfl, BG_c4 (i := 32) rfl rfl, ⟨BG_c3 (i := 144) rfl rfl, BG_c3 (i := 145) rfl rfl⟩, ⟨by decide +kernel, by decide +kernel, by decide +kernel⟩⟩
theorem kt_X5_84 : TV RX5 84 yX5_standsAlone cX5_standsAlone 5 (some .boolean) 2 := ⟨BG_c4 (i := 23) rfl rfl, BG_c1 (i := 6) rfl rfl, BG_c4 (i := 20) rfl rfl, ⟨BG_c4 (i := 22) rfl rfl, BG_se (i := 16) (by decide +kernel) rfl⟩, ⟨by decide +kernel, by decide +kernel, by decide +kernel⟩⟩
theorem kt_X5_88 : TV RX5 88 yX5_markInForce cX5_markInForce 6 none 2 := ⟨BG_c4 (i := 19) rfl rfl, BG_c1 (i := 6) rfl rfl, BG_c4 (i := 16) rfl rfl, ⟨BG_c4 (i := 18) rfl rfl, BG_se (i := 15) (by decide +kernel) rfl⟩, ⟨by decide +kernel, by decide +kernel, by decide +kernel⟩⟩
theorem kt_X5_95 : TV RX5 95 yX5_hasOn cX5_hasOn 5 (some .int) 2 := ⟨BG_c4 (i := 15) rfl rfl, BG_c1 (i := 6) rfl rfl, BG_c4 (i := 12) rfl rfl, ⟨BG_c4 (i := 13) rfl rfl, BG_c4 (i := 14) rfl rfl⟩, ⟨by decide +kernel, by decide +kernel, by decide +kernel⟩⟩
theorem kt_X5_98 : TV RX5 98 yX5_nextChange cX5_nextChange 6 (some .int) 2 := ⟨BG_c4 (i := 36) rfl rfl, BG_c1 (i := 6) rfl rfl, BG_c4 (i := 33) rfl rfl, ⟨BG_c4 (i := 35) rfl rfl, BG_se (i := 17) (by decide +kernel) rfl⟩, ⟨by decide +kernel, by decide +kernel, by decide +kernel⟩⟩
theorem kt_X5_101 : TV RX5 101 yX4_nextSale cX4_nextSale 5 (some .int) 2 := ⟨BG_c4 (i := 40) rfl rfl, BG_c1 (i := 2) rfl rfl, BG_c4 (i := 37) rfl rfl, ⟨BG_c4 (i := 38) rfl rfl, BG_c4 (i := 39) rfl rfl⟩, ⟨by decide +kernel, by decide +kernel, by decide +kernel⟩⟩
theorem kt_X5_104 : Cond.methodLink RX5 104 Lib.Math.min.name ∈ BG := BG_c4 (i := 42) rfl rfl
theorem kt_X5_109 : TV RX5 109 yX3_emptyTill cX3_emptyTill 1 none 0 := ⟨BG_c4 (i := 103) rfl rfl, BG_c1 (i := 4) rfl rfl, BG_c4 (i := 100) rfl rfl, ⟨BG_c4 (i := 101) rfl rfl, BG_c4 (i := 102) rfl rfl⟩, ⟨by decide +kernel, by decide +kernel, by decide +kernel⟩⟩
theorem kt_X5_114 : TV RX5 114 yX5_yearlyOf cX5_yearlyOf 3 (some .int) 1 := ⟨BG_c4 (i := 66) rfl rfl, BG_c1 (i := 6) rfl rfl, BG_c4 (i := 107) rfl rfl, ⟨BG_c4 (i := 64) rfl rfl, BG_c4 (i := 65) rfl rfl⟩, ⟨by decide +kernel, by decide +kernel, by decide +kernel⟩⟩
theorem kt_X5_117 : TV RX5 117 yX3_pay cX3_pay 4 none 2 := ⟨BG_c4 (i := 111) rfl rfl, BG_c1 (i := 4) rfl rfl, BG_c4 (i := 108) rfl rfl, ⟨BG_c4 (i := 109) rfl rfl, BG_c4 (i := 110) rfl rfl⟩, ⟨by decide +kernel, by decide +kernel, by decide +kernel⟩⟩
theorem kt_X5_121 : TV RX5 121 yX3_comesTo cX3_comesTo 5 (some .long) 1 := ⟨BG_c4 (i := 115) rfl rfl, BG_c1 (i := 4) rfl rfl, BG_c4 (i := 112) rfl rfl, ⟨BG_c4 (i := 113) rfl rfl, BG_c4 (i := 114) rfl rfl⟩, ⟨by decide +kernel, by decide +kernel, by decide +kernel⟩⟩
theorem kt_X6_45 : Cond.methodLink RX6 45 Lib.Math.min.name ∈ BG := BG_c3 (i := 205) rfl rfl
theorem kt_X6_51 : TV RX6 51 yX6_sag cX6_sag 4 (some .int) 1 := ⟨BG_c3 (i := 228) rfl rfl, BG_c1 (i := 5) rfl rfl, BG_c3 (i := 233) rfl rfl, ⟨BG_c3 (i := 226) rfl rfl, BG_c3 (i := 227) rfl rfl⟩, ⟨by decide +kernel, by decide +kernel, by decide +kernel⟩⟩
theorem kt_X6_55 : TV RX6 55 yX6_low cX6_low 2 (some .int) 1 := ⟨BG_c3 (i := 232) rfl rfl, BG_c1 (i := 5) rfl rfl, BG_c3 (i := 238) rfl rfl, ⟨BG_c3 (i := 230) rfl rfl, BG_c3 (i := 231) rfl rfl⟩, ⟨by decide +kernel, by decide +kernel, by decide +kernel⟩⟩
theorem kt_X6_64 : TV RX6 64 yX4_treesNow cX4_treesNow 2 (some .int) 1 := ⟨BG_c3 (i := 178) rfl rfl, BG_c1 (i := 2) rfl rfl, BG_c3 (i := 239) rfl rfl, ⟨BG_c3 (i := 176) rfl rfl, BG_c3 (i := 177) rfl rfl⟩, ⟨by decide +kernel, by decide +kernel, by decide +kernel⟩⟩
theorem kt_X6_67 : Cond.methodLink RX6 67 Lib.Math.max.name ∈ BG := BG_c4 (i := 0) rfl rfl
theorem kt_X6_70 : TV RX6 70 yX6_near cX6_near 3 (some .int) 1 := ⟨BG_c3 (i := 237) rfl rfl, BG_c1 (i := 5) rfl rfl, BG_c4 (i := 7) rfl rfl, ⟨BG_c3 (i := 235) rfl rfl, BG_c3 (i := 236) rfl rfl⟩, ⟨by decide +kernel, by decide +kernel, by decide +kernel⟩⟩
theorem kt_X6_73 : TV RX6 73 yX6_isTooNear cX6_isTooNear 2 (some .boolean) 1 := ⟨BG_c4 (i := 6) rfl rfl, BG_c1 (i := 5) rfl rfl, BG_c5 (i := 73) rfl rfl, ⟨BG_c4 (i := 4) rfl rfl, BG_c4 (i := 5) rfl rfl⟩, ⟨by decide +kernel, by decide +kernel, by decide +kernel⟩⟩
theorem kt_X7_26 : Cond.methodLink RX7 26 Lib.Math.max.name ∈ BG := BG_c4 (i := 214) rfl rfl
theorem kt_X7_32 : Cond.methodLink RX7 32 Lib.Math.min.name ∈ BG := BG_c4 (i := 215) rfl rfl
theorem kt_X8_33 : TV RX8 33 yJ0_length_8abf5 cJ0_length_8abf5 1 (some .int) 0 := ⟨BG_c2 (i := 171) rfl rfl, BG_c1 (i := 14) rfl rfl, BG_c2 (i := 168) rfl rfl, ⟨BG_c2 (i := 169) rfl rfl, BG_c2 (i := 170) rfl rfl⟩, ⟨by decide +kernel, by decide +kernel, by decide +kernel⟩⟩
theorem kt_X8_39 : TV RX8 39 yJ0_charAt_5068e cJ0_charAt_5068e 2 (some .char) 1 := ⟨BG_c2 (i := 181) rfl rfl, BG_c1 (i := 14) rfl rfl, BG_c2 (i := 178) rfl rfl, ⟨BG_c2 (i := 179) rfl rfl, BG_c2 (i := 180) rfl rfl⟩, ⟨by decide +kernel, by decide +kernel, by decide +kernel⟩⟩
theorem kt_X8_43 : TV RX8 43 yX8_take cX8_take 2 none 1 := ⟨BG_c2 (i := 219) rfl rfl, BG_c1 (i := 7) rfl rfl, BG_c2 (i := 216) rfl rfl, ⟨BG_c2 (i := 217) rfl rfl, BG_c2 (i := 218) rfl rfl⟩, ⟨by decide +kernel, by decide +kernel, by decide +kernel⟩⟩
theorem kt_X8_47 : TV RX8 47 yX8_splitTape cX8_splitTape 3 none 0 := ⟨BG_c2 (i := 227) rfl rfl, BG_c1 (i := 7) rfl rfl, BG_c2 (i := 224) rfl rfl, ⟨BG_c2 (i := 226) rfl rfl, BG_se (i := 0) (by decide +kernel) rfl⟩, ⟨by decide +kernel, by decide +kernel, by decide +kernel⟩⟩
theorem kt_X8_58 : TV RX8 58 yX8_readParts cX8_readParts 1 (some .boolean) 0 := ⟨BG_c3 (i := 46) rfl rfl, BG_c1 (i := 7) rfl rfl, BG_c3 (i := 43) rfl rfl, ⟨BG_c3 (i := 45) rfl rfl, BG_se (i := 9) (by decide +kernel) rfl⟩, ⟨by decide +kernel, by decide +kernel, by decide +kernel⟩⟩
theorem kt_X8_65 : TV RX8 65 yX8_behindBlanks cX8_behindBlanks 3 (some .int) 1 := ⟨BG_c2 (i := 231) rfl rfl, BG_c1 (i := 7) rfl rfl, BG_c2 (i := 228) rfl rfl, ⟨BG_c2 (i := 230) rfl rfl, BG_se (i := 1) (by decide +kernel) rfl⟩, ⟨by decide +kernel, by decide +kernel, by decide +kernel⟩⟩
theorem kt_X8_69 : TV RX8 69 yX8_splitOne cX8_splitOne 5 (some .int) 1 := ⟨BG_c2 (i := 235) rfl rfl, BG_c1 (i := 7) rfl rfl, BG_c2 (i := 232) rfl rfl, ⟨BG_c2 (i := 234) rfl rfl, BG_se (i := 2) (by decide +kernel) rfl⟩, ⟨by decide +kernel, by decide +kernel, by decide +kernel⟩⟩
theorem kt_X8_72 : TV RX8 72 yX8_put cX8_put 4 (some .int) 3 := ⟨BG_c2 (i := 239) rfl rfl, BG_c1 (i := 7) rfl rfl, BG_c2 (i := 236) rfl rfl, ⟨BG_c2 (i := 238) rfl rfl, BG_se (i := 3) (by decide +kernel) rfl⟩, ⟨by decide +kernel, by decide +kernel, by decide +kernel⟩⟩
theorem kt_X8_76 : TS RX8 76 yX8_isLetter cX8_isLetter 1 (some .boolean) 1 := ⟨BG_c3 (i := 2) rfl rfl, BG_c1 (i := 7) rfl rfl, BG_c3 (i := 0) rfl rfl, BG_c3 (i := 1) rfl rfl, ⟨by decide +kernel, by decide +kernel, by decide +kernel⟩⟩
theorem kt_X8_80 : TV RX8 80 yX8_behindLetters cX8_behindLetters 3 (some .int) 1 := ⟨BG_c3 (i := 9) rfl rfl, BG_c1 (i := 7) rfl rfl, BG_c3 (i := 6) rfl rfl, ⟨BG_c3 (i := 8) rfl rfl, BG_se (i := 4) (by decide +kernel) rfl⟩, ⟨by decide +kernel, by decide +kernel, by decide +kernel⟩⟩
theorem kt_X8_83 : TV RX8 83 yX8_wordAt cX8_wordAt 3 (some .int) 2 := ⟨BG_c3 (i := 13) rfl rfl, BG_c1 (i := 7) rfl rfl, BG_c3 (i := 10) rfl rfl, ⟨BG_c3 (i := 12) rfl rfl, BG_se (i := 5) (by decide +kernel) rfl⟩, ⟨by decide +kernel, by decide +kernel, by decide +kernel⟩⟩
theorem kt_X8_87 : TS RX8 87 yX8_isDigit cX8_isDigit 1 (some .boolean) 1 := ⟨BG_c3 (i := 31) rfl rfl, BG_c1 (i := 7) rfl rfl, BG_c3 (i := 29) rfl rfl, BG_c3 (i := 30) rfl rfl, ⟨by decide +kernel, by decide +kernel, by decide +kernel⟩⟩
theorem kt_X8_90 : TV RX8 90 yX8_behindDigits cX8_behindDigits 3 (some .int) 1 := ⟨BG_c3 (i := 35) rfl rfl, BG_c1 (i := 7) rfl rfl, BG_c3 (i := 32) rfl rfl, ⟨BG_c3 (i := 34) rfl rfl, BG_se (i := 7) (by decide +kernel) rfl⟩, ⟨by decide +kernel, by decide +kernel, by decide +kernel⟩⟩
theorem kt_X8_93 : TV RX8 93 yX8_numberAt cX8_numberAt 5 (some .int) 2 := ⟨BG_c3 (i := 39) rfl rfl, BG_c1 (i := 7) rfl rfl, BG_c3 (i := 36) rfl rfl, ⟨BG_c3 (i := 38) rfl rfl, BG_se (i := 8) (by decide +kernel) rfl⟩, ⟨by decide +kernel, by decide +kernel, by decide +kernel⟩⟩
theorem kt_X8_96 : TS RX8 96 yX8_isSign cX8_isSign 1 (some .boolean) 1 := ⟨BG_c3 (i := 42) rfl rfl, BG_c1 (i := 7) rfl rfl, BG_c3 (i := 40) rfl rfl, BG_c3 (i := 41) rfl rfl, ⟨by decide +kernel, by decide +kernel, by decide +kernel⟩⟩
theorem kt_X8_105 : TV RX8 105 yX8_isWord cX8_isWord 5 (some .boolean) 3 := ⟨BG_c3 (i := 18) rfl rfl, BG_c1 (i := 7) rfl rfl, BG_c3 (i := 15) rfl rfl, ⟨BG_c3 (i := 17) rfl rfl, BG_se (i := 6) (by decide +kernel) rfl⟩, ⟨by decide +kernel, by decide +kernel, by decide +kernel⟩⟩
theorem kt_X8_129 : TV RX8 129 yX8_accept cX8_accept 2 (some .boolean) 1 := ⟨BG_c3 (i := 50) rfl rfl, BG_c1 (i := 7) rfl rfl, BG_c3 (i := 47) rfl rfl, ⟨BG_c3 (i := 49) rfl rfl, BG_se (i := 10) (by decide +kernel) rfl⟩, ⟨by decide +kernel, by decide +kernel, by decide +kernel⟩⟩
theorem kt_X8_132 : TV RX8 132 yX8_readLevel cX8_readLevel 6 (some .boolean) 2 := ⟨BG_c3 (i := 54) rfl rfl, BG_c1 (i := 7) rfl rfl, BG_c3 (i := 51) rfl rfl, ⟨BG_c3 (i := 53) rfl rfl, BG_se (i := 11) (by decide +kernel) rfl⟩, ⟨by decide +kernel, by decide +kernel, by decide +kernel⟩⟩
theorem kt_X8_136 : TV RX8 136 yX8_readOne cX8_readOne 3 (some .boolean) 1 := ⟨BG_c3 (i := 58) rfl rfl, BG_c1 (i := 7) rfl rfl, BG_c3 (i := 55) rfl rfl, ⟨BG_c3 (i := 57) rfl rfl, BG_se (i := 12) (by decide +kernel) rfl⟩, ⟨by decide +kernel, by decide +kernel, by decide +kernel⟩⟩
theorem kt_X8_139 : TV RX8 139 yX8_readOpened cX8_readOpened 4 (some .boolean) 3 := ⟨BG_c3 (i := 62) rfl rfl, BG_c1 (i := 7) rfl rfl, BG_c3 (i := 59) rfl rfl, ⟨BG_c3 (i := 61) rfl rfl, BG_se (i := 13) (by decide +kernel) rfl⟩, ⟨by decide +kernel, by decide +kernel, by decide +kernel⟩⟩
theorem kt_X8_142 : TS RX8 142 yX8_isSignOf cX8_isSignOf 2 (some .boolean) 2 := ⟨BG_c3 (i := 69) rfl rfl, BG_c1 (i := 7) rfl rfl, BG_c3 (i := 67) rfl rfl, BG_c3 (i := 68) rfl rfl, ⟨by decide +kernel, by decide +kernel, by decide +kernel⟩⟩
theorem kt_X8_145 : TV RX8 145 yX8_emit cX8_emit 2 none 1 := ⟨BG_c3 (i := 66) rfl rfl, BG_c1 (i := 7) rfl rfl, BG_c3 (i := 63) rfl rfl, ⟨BG_c3 (i := 65) rfl rfl, BG_se (i := 14) (by decide +kernel) rfl⟩, ⟨by decide +kernel, by decide +kernel, by decide +kernel⟩⟩
theorem kt_X9_27 : TS RX9 27 yJ7_fill_53178 cJ7_fill_53178 4 none 2 := ⟨BG_c1 (i := 40) rfl rfl, BG_c1 (i := 3) rfl rfl, BG_c2 (i := 146) rfl rfl, BG_c1 (i := 39) rfl rfl, ⟨by decide +kernel, by decide +kernel, by decide +kernel⟩⟩
theorem kt_X9_37 : TS RX9 37 yX9_narrowed cX9_narrowed 2 (some .int) 2 := ⟨BG_c5 (i := 105) rfl rfl, BG_c1 (i := 13) rfl rfl, BG_c5 (i := 103) rfl rfl, BG_c5 (i := 104) rfl rfl, ⟨by decide +kernel, by decide +kernel, by decide +kernel⟩⟩
theorem kt_X9_41 : TV RX9 41 yX9_hasPlaces cX9_hasPlaces 4 (some .boolean) 3 := ⟨BG_c5 (i := 113) rfl rfl, BG_c1 (i := 13) rfl rfl, BG_c5 (i := 123) rfl rfl, ⟨BG_c5 (i := 111) rfl rfl, BG_c5 (i := 112) rfl rfl⟩, ⟨by decide +kernel, by decide +kernel, by decide +kernel⟩⟩
theorem kt_X9_54 : TV RX9 54 yX4_tell cX4_tell 5 (some .int) 3 := ⟨BG_c3 (i := 166) rfl rfl, BG_c1 (i := 2) rfl rfl, BG_c5 (i := 127) rfl rfl, ⟨BG_c3 (i := 164) rfl rfl, BG_c3 (i := 165) rfl rfl⟩, ⟨by decide +kernel, by decide +kernel, by decide +kernel⟩⟩
theorem kt_X10_22 : TV RX10 22 yX10_weightOf cX10_weightOf 6 (some .int) 3 := ⟨BG_c4 (i := 231) rfl rfl, BG_c1 (i := 11) rfl rfl, BG_c4 (i := 228) rfl rfl, ⟨BG_c4 (i := 230) rfl rfl, BG_se (i := 24) (by decide +kernel) rfl⟩, ⟨by decide +kernel, by decide +kernel, by decide +kernel⟩⟩
theorem kt_X10_26 : TV RX10 26 yX10_spreadFrom cX10_spreadFrom 5 none 1 := ⟨BG_c4 (i := 236) rfl rfl, BG_c1 (i := 11) rfl rfl, BG_c4 (i := 233) rfl rfl, ⟨BG_c4 (i := 235) rfl rfl, BG_se (i := 25) (by decide +kernel) rfl⟩, ⟨by decide +kernel, by decide +kernel, by decide +kernel⟩⟩
theorem kt_X10_37 : TV RX10 37 yX4_ownerOn cX4_ownerOn 6 (some .int) 2 := ⟨BG_c3 (i := 146) rfl rfl, BG_c1 (i := 2) rfl rfl, BG_c4 (i := 232) rfl rfl, ⟨BG_c3 (i := 144) rfl rfl, BG_c3 (i := 145) rfl rfl⟩, ⟨by decide +kernel, by decide +kernel, by decide +kernel⟩⟩
theorem kt_X10_48 : TS RX10 48 yJ7_fill_53178 cJ7_fill_53178 4 none 2 := ⟨BG_c1 (i := 40) rfl rfl, BG_c1 (i := 3) rfl rfl, BG_c4 (i := 238) rfl rfl, BG_c1 (i := 39) rfl rfl, ⟨by decide +kernel, by decide +kernel, by decide +kernel⟩⟩
theorem kt_X10_54 : TV RX10 54 yX10_lessen cX10_lessen 5 (some .boolean) 1 := ⟨BG_c5 (i := 2) rfl rfl, BG_c1 (i := 11) rfl rfl, BG_c4 (i := 239) rfl rfl, ⟨BG_c5 (i := 1) rfl rfl, BG_se (i := 26) (by decide +kernel) rfl⟩, ⟨by decide +kernel, by decide +kernel, by decide +kernel⟩⟩
theorem kt_X10_58 : TS RX10 58 yX10_beside cX10_beside 3 (some .int) 2 := ⟨BG_c5 (i := 5) rfl rfl, BG_c1 (i := 11) rfl rfl, BG_c5 (i := 3) rfl rfl, BG_c5 (i := 4) rfl rfl, ⟨by decide +kernel, by decide +kernel, by decide +kernel⟩⟩
theorem kt_X10_61 : Cond.methodLink RX10 61 Lib.Math.min.name ∈ BG := BG_c5 (i := 6) rfl rfl
theorem kt_X10_70 : TV RX10 70 yX10_nextOn cX10_nextOn 5 (some .int) 1 := ⟨BG_c5 (i := 15) rfl rfl, BG_c1 (i := 11) rfl rfl, BG_c5 (i := 12) rfl rfl, ⟨BG_c5 (i := 14) rfl rfl, BG_se (i := 27) (by decide +kernel) rfl⟩, ⟨by decide +kernel, by decide +kernel, by decide +kernel⟩⟩
theorem kt_L_13 : TV RL 13 yX11_pass cX11_pass 2 (some .int) 1 := ⟨BG_c3 (i := 115) rfl rfl, BG_c1 (i := 1) rfl rfl, BG_c3 (i := 112) rfl rfl, ⟨BG_c3 (i := 113) rfl rfl, BG_c3 (i := 114) rfl rfl⟩, ⟨by decide +kernel, by decide +kernel, by decide +kernel⟩⟩
theorem kt_L_17 : TV RL 17 yX12_pass cX12_pass 2 (some .int) 1 := ⟨BG_c5 (i := 141) rfl rfl, BG_c1 (i := 19) rfl rfl, BG_c5 (i := 138) rfl rfl, ⟨BG_c5 (i := 139) rfl rfl, BG_c5 (i := 140) rfl rfl⟩, ⟨by decide +kernel, by decide +kernel, by decide +kernel⟩⟩
theorem kt_L_18 : TV RL 18 yX11_sell cX11_sell 4 (some .int) 3 := ⟨BG_c3 (i := 120) rfl rfl, BG_c1 (i := 1) rfl rfl, BG_c3 (i := 117) rfl rfl, ⟨BG_c3 (i := 118) rfl rfl, BG_c3 (i := 119) rfl rfl⟩, ⟨by decide +kernel, by decide +kernel, by decide +kernel⟩⟩
theorem kt_L_22 : TV RL 22 yX12_sell cX12_sell 4 (some .int) 3 := ⟨BG_c5 (i := 149) rfl rfl, BG_c1 (i := 19) rfl rfl, BG_c5 (i := 146) rfl rfl, ⟨BG_c5 (i := 147) rfl rfl, BG_c5 (i := 148) rfl rfl⟩, ⟨by decide +kernel, by decide +kernel, by decide +kernel⟩⟩
theorem kt_L_23 : TV RL 23 yX11_owner cX11_owner 3 (some .int) 2 := ⟨BG_c3 (i := 139) rfl rfl, BG_c1 (i := 1) rfl rfl, BG_c3 (i := 136) rfl rfl, ⟨BG_c3 (i := 137) rfl rfl, BG_c3 (i := 138) rfl rfl⟩, ⟨by decide +kernel, by decide +kernel, by decide +kernel⟩⟩
theorem kt_L_27 : TV RL 27 yX12_owner cX12_owner 3 (some .int) 2 := ⟨BG_c5 (i := 162) rfl rfl, BG_c1 (i := 19) rfl rfl, BG_c5 (i := 159) rfl rfl, ⟨BG_c5 (i := 160) rfl rfl, BG_c5 (i := 161) rfl rfl⟩, ⟨by decide +kernel, by decide +kernel, by decide +kernel⟩⟩
theorem kt_L_28 : TV RL 28 yX11_heir cX11_heir 4 (some .int) 3 := ⟨BG_c3 (i := 150) rfl rfl, BG_c1 (i := 1) rfl rfl, BG_c3 (i := 147) rfl rfl, ⟨BG_c3 (i := 148) rfl rfl, BG_c3 (i := 149) rfl rfl⟩, ⟨by decide +kernel, by decide +kernel, by decide +kernel⟩⟩
theorem kt_L_31 : TV RL 31 yX12_heir cX12_heir 5 (some .int) 3 := ⟨BG_c5 (i := 174) rfl rfl, BG_c1 (i := 19) rfl rfl, BG_c5 (i := 171) rfl rfl, ⟨BG_c5 (i := 172) rfl rfl, BG_c5 (i := 173) rfl rfl⟩, ⟨by decide +kernel, by decide +kernel, by decide +kernel⟩⟩
theorem kt_L_32 : TV RL 32 yX11_set cX11_set 4 (some .int) 3 := ⟨BG_c3 (i := 158) rfl rfl, BG_c1 (i := 1) rfl rfl, BG_c3 (i := 155) rfl rfl, ⟨BG_c3 (i := 156) rfl rfl, BG_c3 (i := 157) rfl rfl⟩, ⟨by decide +kernel, by decide +kernel, by decide +kernel⟩⟩
theorem kt_L_35 : TV RL 35 yX12_set cX12_set 5 (some .int) 3 := ⟨BG_c5 (i := 179) rfl rfl, BG_c1 (i := 19) rfl rfl, BG_c5 (i := 176) rfl rfl, ⟨BG_c5 (i := 177) rfl rfl, BG_c5 (i := 178) rfl rfl⟩, ⟨by decide +kernel, by decide +kernel, by decide +kernel⟩⟩
theorem kt_L_36 : TV RL 36 yX11_trees cX11_trees 4 (some .int) 3 := ⟨BG_c3 (i := 170) rfl rfl, BG_c1 (i := 1) rfl rfl, BG_c3 (i := 167) rfl rfl, ⟨BG_c3 (i := 168) rfl rfl, BG_c3 (i := 169) rfl rfl⟩, ⟨by decide +kernel, by decide +kernel, by decide +kernel⟩⟩
theorem kt_L_39 : TV RL 39 yX12_trees cX12_trees 5 (some .int) 3 := ⟨BG_c5 (i := 185) rfl rfl, BG_c1 (i := 19) rfl rfl, BG_c5 (i := 182) rfl rfl, ⟨BG_c5 (i := 183) rfl rfl, BG_c5 (i := 184) rfl rfl⟩, ⟨by decide +kernel, by decide +kernel, by decide +kernel⟩⟩
theorem kt_L_40 : TV RL 40 yX11_high cX11_high 2 (some .int) 1 := ⟨BG_c3 (i := 182) rfl rfl, BG_c1 (i := 1) rfl rfl, BG_c3 (i := 179) rfl rfl, ⟨BG_c3 (i := 180) rfl rfl, BG_c3 (i := 181) rfl rfl⟩, ⟨by decide +kernel, by decide +kernel, by decide +kernel⟩⟩
theorem kt_L_43 : TV RL 43 yX12_high cX12_high 2 (some .int) 1 := ⟨BG_c5 (i := 194) rfl rfl, BG_c1 (i := 19) rfl rfl, BG_c5 (i := 191) rfl rfl, ⟨BG_c5 (i := 192) rfl rfl, BG_c5 (i := 193) rfl rfl⟩, ⟨by decide +kernel, by decide +kernel, by decide +kernel⟩⟩
theorem kt_L_44 : TV RL 44 yX11_tower cX11_tower 3 (some .int) 2 := ⟨BG_c3 (i := 187) rfl rfl, BG_c1 (i := 1) rfl rfl, BG_c3 (i := 184) rfl rfl, ⟨BG_c3 (i := 185) rfl rfl, BG_c3 (i := 186) rfl rfl⟩, ⟨by decide +kernel, by decide +kernel, by decide +kernel⟩⟩
theorem kt_L_47 : TV RL 47 yX12_tower cX12_tower 3 (some .int) 2 := ⟨BG_c5 (i := 198) rfl rfl, BG_c1 (i := 19) rfl rfl, BG_c5 (i := 195) rfl rfl, ⟨BG_c5 (i := 196) rfl rfl, BG_c5 (i := 197) rfl rfl⟩, ⟨by decide +kernel, by decide +kernel, by decide +kernel⟩⟩
theorem kt_L_48 : TV RL 48 yX11_span cX11_span 5 (some .int) 4 := ⟨BG_c3 (i := 195) rfl rfl, BG_c1 (i := 1) rfl rfl, BG_c3 (i := 192) rfl rfl, ⟨BG_c3 (i := 193) rfl rfl, BG_c3 (i := 194) rfl rfl⟩, ⟨by decide +kernel, by decide +kernel, by decide +kernel⟩⟩
theorem kt_L_52 : TV RL 52 yX12_span cX12_span 5 (some .int) 4 := ⟨BG_c5 (i := 204) rfl rfl, BG_c1 (i := 19) rfl rfl, BG_c5 (i := 201) rfl rfl, ⟨BG_c5 (i := 202) rfl rfl, BG_c5 (i := 203) rfl rfl⟩, ⟨by decide +kernel, by decide +kernel, by decide +kernel⟩⟩
theorem kt_L_53 : TV RL 53 yX11_heat cX11_heat 3 (some .int) 2 := ⟨BG_c3 (i := 211) rfl rfl, BG_c1 (i := 1) rfl rfl, BG_c3 (i := 208) rfl rfl, ⟨BG_c3 (i := 209) rfl rfl, BG_c3 (i := 210) rfl rfl⟩, ⟨by decide +kernel, by decide +kernel, by decide +kernel⟩⟩
theorem kt_L_56 : TV RL 56 yX12_heat cX12_heat 4 (some .int) 2 := ⟨BG_c5 (i := 214) rfl rfl, BG_c1 (i := 19) rfl rfl, BG_c5 (i := 211) rfl rfl, ⟨BG_c5 (i := 212) rfl rfl, BG_c5 (i := 213) rfl rfl⟩, ⟨by decide +kernel, by decide +kernel, by decide +kernel⟩⟩
theorem kt_L_57 : TV RL 57 yX11_spanTold cX11_spanTold 3 (some .long) 2 := ⟨BG_c3 (i := 223) rfl rfl, BG_c1 (i := 1) rfl rfl, BG_c3 (i := 220) rfl rfl, ⟨BG_c3 (i := 221) rfl rfl, BG_c3 (i := 222) rfl rfl⟩, ⟨by decide +kernel, by decide +kernel, by decide +kernel⟩⟩
theorem kt_L_61 : TV RL 61 yX12_spanTold cX12_spanTold 3 (some .long) 2 := ⟨BG_c5 (i := 223) rfl rfl, BG_c1 (i := 19) rfl rfl, BG_c5 (i := 220) rfl rfl, ⟨BG_c5 (i := 221) rfl rfl, BG_c5 (i := 222) rfl rfl⟩, ⟨by decide +kernel, by decide +kernel, by decide +kernel⟩⟩
theorem kt_L_62 : TV RL 62 yX11_leave cX11_leave 6 (some .int) 5 := ⟨BG_c4 (i := 46) rfl rfl, BG_c1 (i := 1) rfl rfl, BG_c4 (i := 43) rfl rfl, ⟨BG_c4 (i := 44) rfl rfl, BG_c4 (i := 45) rfl rfl⟩, ⟨by decide +kernel, by decide +kernel, by decide +kernel⟩⟩
theorem kt_L_66 : TV RL 66 yX12_leave cX12_leave 7 (some .int) 5 := ⟨BG_c6 (i := 26) rfl rfl, BG_c1 (i := 19) rfl rfl, BG_c6 (i := 23) rfl rfl, ⟨BG_c6 (i := 24) rfl rfl, BG_c6 (i := 25) rfl rfl⟩, ⟨by decide +kernel, by decide +kernel, by decide +kernel⟩⟩
theorem kt_L_67 : TV RL 67 yX11_leaveTold cX11_leaveTold 3 (some .int) 2 := ⟨BG_c4 (i := 60) rfl rfl, BG_c1 (i := 1) rfl rfl, BG_c4 (i := 57) rfl rfl, ⟨BG_c4 (i := 58) rfl rfl, BG_c4 (i := 59) rfl rfl⟩, ⟨by decide +kernel, by decide +kernel, by decide +kernel⟩⟩
theorem kt_L_70 : TV RL 70 yX12_leaveTold cX12_leaveTold 3 (some .int) 2 := ⟨BG_c6 (i := 36) rfl rfl, BG_c1 (i := 19) rfl rfl, BG_c6 (i := 33) rfl rfl, ⟨BG_c6 (i := 34) rfl rfl, BG_c6 (i := 35) rfl rfl⟩, ⟨by decide +kernel, by decide +kernel, by decide +kernel⟩⟩
theorem kt_L_71 : TV RL 71 yX11_renew cX11_renew 2 (some .int) 1 := ⟨BG_c4 (i := 74) rfl rfl, BG_c1 (i := 1) rfl rfl, BG_c4 (i := 71) rfl rfl, ⟨BG_c4 (i := 72) rfl rfl, BG_c4 (i := 73) rfl rfl⟩, ⟨by decide +kernel, by decide +kernel, by decide +kernel⟩⟩
theorem kt_L_74 : TV RL 74 yX12_renew cX12_renew 2 (some .int) 1 := ⟨BG_c6 (i := 44) rfl rfl, BG_c1 (i := 19) rfl rfl, BG_c6 (i := 41) rfl rfl, ⟨BG_c6 (i := 42) rfl rfl, BG_c6 (i := 43) rfl rfl⟩, ⟨by decide +kernel, by decide +kernel, by decide +kernel⟩⟩
theorem kt_L_75 : TV RL 75 yX11_appeal cX11_appeal 3 (some .int) 1 := ⟨BG_c4 (i := 78) rfl rfl, BG_c1 (i := 1) rfl rfl, BG_c4 (i := 75) rfl rfl, ⟨BG_c4 (i := 76) rfl rfl, BG_c4 (i := 77) rfl rfl⟩, ⟨by decide +kernel, by decide +kernel, by decide +kernel⟩⟩
theorem kt_L_78 : TV RL 78 yX12_appeal cX12_appeal 2 (some .int) 1 := ⟨BG_c6 (i := 48) rfl rfl, BG_c1 (i := 19) rfl rfl, BG_c6 (i := 45) rfl rfl, ⟨BG_c6 (i := 46) rfl rfl, BG_c6 (i := 47) rfl rfl⟩, ⟨by decide +kernel, by decide +kernel, by decide +kernel⟩⟩
theorem kt_L_79 : TV RL 79 yX11_undo cX11_undo 3 (some .int) 2 := ⟨BG_c4 (i := 82) rfl rfl, BG_c1 (i := 1) rfl rfl, BG_c4 (i := 79) rfl rfl, ⟨BG_c4 (i := 80) rfl rfl, BG_c4 (i := 81) rfl rfl⟩, ⟨by decide +kernel, by decide +kernel, by decide +kernel⟩⟩
theorem kt_L_82 : TV RL 82 yX12_undo cX12_undo 5 (some .int) 2 := ⟨BG_c6 (i := 52) rfl rfl, BG_c1 (i := 19) rfl rfl, BG_c6 (i := 49) rfl rfl, ⟨BG_c6 (i := 50) rfl rfl, BG_c6 (i := 51) rfl rfl⟩, ⟨by decide +kernel, by decide +kernel, by decide +kernel⟩⟩
theorem kt_L_83 : TV RL 83 yX11_has cX11_has 3 (some .int) 2 := ⟨BG_c4 (i := 90) rfl rfl, BG_c1 (i := 1) rfl rfl, BG_c4 (i := 87) rfl rfl, ⟨BG_c4 (i := 88) rfl rfl, BG_c4 (i := 89) rfl rfl⟩, ⟨by decide +kernel, by decide +kernel, by decide +kernel⟩⟩
theorem kt_L_86 : TV RL 86 yX12_has cX12_has 3 (some .int) 2 := ⟨BG_c6 (i := 60) rfl rfl, BG_c1 (i := 19) rfl rfl, BG_c6 (i := 57) rfl rfl, ⟨BG_c6 (i := 58) rfl rfl, BG_c6 (i := 59) rfl rfl⟩, ⟨by decide +kernel, by decide +kernel, by decide +kernel⟩⟩
theorem kt_L_87 : TV RL 87 yX11_yearly cX11_yearly 3 (some .long) 2 := ⟨BG_c4 (i := 95) rfl rfl, BG_c1 (i := 1) rfl rfl, BG_c4 (i := 92) rfl rfl, ⟨BG_c4 (i := 93) rfl rfl, BG_c4 (i := 94) rfl rfl⟩, ⟨by decide +kernel, by decide +kernel, by decide +kernel⟩⟩
theorem kt_L_90 : TV RL 90 yX12_yearly cX12_yearly 4 (some .long) 2 := ⟨BG_c6 (i := 64) rfl rfl, BG_c1 (i := 19) rfl rfl, BG_c6 (i := 61) rfl rfl, ⟨BG_c6 (i := 62) rfl rfl, BG_c6 (i := 63) rfl rfl⟩, ⟨by decide +kernel, by decide +kernel, by decide +kernel⟩⟩
theorem kt_L_93 : TV RL 93 yX11_feed cX11_feed 5 (some .int) 2 := ⟨BG_c4 (i := 123) rfl rfl, BG_c1 (i := 1) rfl rfl, BG_c4 (i := 120) rfl rfl, ⟨BG_c4 (i := 121) rfl rfl, BG_c4 (i := 122) rfl rfl⟩, ⟨by decide +kernel, by decide +kernel, by decide +kernel⟩⟩
theorem kt_L_97 : TV RL 97 yX12_feed cX12_feed 5 (some .int) 2 := ⟨BG_c6 (i := 76) rfl rfl, BG_c1 (i := 19) rfl rfl, BG_c6 (i := 73) rfl rfl, ⟨BG_c6 (i := 74) rfl rfl, BG_c6 (i := 75) rfl rfl⟩, ⟨by decide +kernel, by decide +kernel, by decide +kernel⟩⟩
theorem kt_L_98 : TV RL 98 yX11_text cX11_text 2 (some .int) 0 := ⟨BG_c4 (i := 128) rfl rfl, BG_c1 (i := 1) rfl rfl, BG_c4 (i := 125) rfl rfl, ⟨BG_c4 (i := 126) rfl rfl, BG_c4 (i := 127) rfl rfl⟩, ⟨by decide +kernel, by decide +kernel, by decide +kernel⟩⟩
theorem kt_L_102 : TV RL 102 yX12_text cX12_text 2 (some .int) 0 := ⟨BG_c6 (i := 81) rfl rfl, BG_c1 (i := 19) rfl rfl, BG_c6 (i := 78) rfl rfl, ⟨BG_c6 (i := 79) rfl rfl, BG_c6 (i := 80) rfl rfl⟩, ⟨by decide +kernel, by decide +kernel, by decide +kernel⟩⟩
theorem kt_L_103 : TV RL 103 yX11_force cX11_force 3 (some .int) 1 := ⟨BG_c4 (i := 132) rfl rfl, BG_c1 (i := 1) rfl rfl, BG_c4 (i := 129) rfl rfl, ⟨BG_c4 (i := 130) rfl rfl, BG_c4 (i := 131) rfl rfl⟩, ⟨by decide +kernel, by decide +kernel, by decide +kernel⟩⟩
theorem kt_L_106 : TV RL 106 yX12_force cX12_force 3 (some .int) 1 := ⟨BG_c6 (i := 148) rfl rfl, BG_c1 (i := 19) rfl rfl, BG_c6 (i := 145) rfl rfl, ⟨BG_c6 (i := 146) rfl rfl, BG_c6 (i := 147) rfl rfl⟩, ⟨by decide +kernel, by decide +kernel, by decide +kernel⟩⟩
theorem kt_L_107 : TV RL 107 yX11_says cX11_says 3 (some .long) 2 := ⟨BG_c4 (i := 136) rfl rfl, BG_c1 (i := 1) rfl rfl, BG_c4 (i := 133) rfl rfl, ⟨BG_c4 (i := 134) rfl rfl, BG_c4 (i := 135) rfl rfl⟩, ⟨by decide +kernel, by decide +kernel, by decide +kernel⟩⟩
theorem kt_L_110 : TV RL 110 yX12_says cX12_says 3 (some .long) 2 := ⟨BG_c7 (i := 147) rfl rfl, BG_c1 (i := 19) rfl rfl, BG_c7 (i := 144) rfl rfl, ⟨BG_c7 (i := 145) rfl rfl, BG_c7 (i := 146) rfl rfl⟩, ⟨by decide +kernel, by decide +kernel, by decide +kernel⟩⟩
theorem kt_L_111 : TV RL 111 yX11_claim cX11_claim 4 (some .int) 3 := ⟨BG_c4 (i := 169) rfl rfl, BG_c1 (i := 1) rfl rfl, BG_c4 (i := 166) rfl rfl, ⟨BG_c4 (i := 167) rfl rfl, BG_c4 (i := 168) rfl rfl⟩, ⟨by decide +kernel, by decide +kernel, by decide +kernel⟩⟩
theorem kt_L_114 : TV RL 114 yX12_claim cX12_claim 4 (some .int) 3 := ⟨BG_c7 (i := 162) rfl rfl, BG_c1 (i := 19) rfl rfl, BG_c7 (i := 159) rfl rfl, ⟨BG_c7 (i := 160) rfl rfl, BG_c7 (i := 161) rfl rfl⟩, ⟨by decide +kernel, by decide +kernel, by decide +kernel⟩⟩
theorem kt_L_115 : TV RL 115 yX11_doubled cX11_doubled 1 (some .int) 0 := ⟨BG_c4 (i := 181) rfl rfl, BG_c1 (i := 1) rfl rfl, BG_c4 (i := 178) rfl rfl, ⟨BG_c4 (i := 179) rfl rfl, BG_c4 (i := 180) rfl rfl⟩, ⟨by decide +kernel, by decide +kernel, by decide +kernel⟩⟩
theorem kt_L_118 : TV RL 118 yX12_doubled cX12_doubled 3 (some .int) 0 := ⟨BG_c7 (i := 166) rfl rfl, BG_c1 (i := 19) rfl rfl, BG_c7 (i := 163) rfl rfl, ⟨BG_c7 (i := 164) rfl rfl, BG_c7 (i := 165) rfl rfl⟩, ⟨by decide +kernel, by decide +kernel, by decide +kernel⟩⟩
theorem kt_L_119 : TV RL 119 yX11_due cX11_due 2 (some .long) 1 := ⟨BG_c4 (i := 185) rfl rfl, BG_c1 (i := 1) rfl rfl, BG_c4 (i := 182) rfl rfl, ⟨BG_c4 (i := 183) rfl rfl, BG_c4 (i := 184) rfl rfl⟩, ⟨by decide +kernel, by decide +kernel, by decide +kernel⟩⟩
theorem kt_L_123 : TV RL 123 yX12_due cX12_due 3 (some .long) 1 := ⟨BG_c7 (i := 174) rfl rfl, BG_c1 (i := 19) rfl rfl, BG_c7 (i := 171) rfl rfl, ⟨BG_c7 (i := 172) rfl rfl, BG_c7 (i := 173) rfl rfl⟩, ⟨by decide +kernel, by decide +kernel, by decide +kernel⟩⟩
theorem kt_L_124 : TV RL 124 yX11_look cX11_look 4 (some .int) 3 := ⟨BG_c4 (i := 200) rfl rfl, BG_c1 (i := 1) rfl rfl, BG_c4 (i := 197) rfl rfl, ⟨BG_c4 (i := 198) rfl rfl, BG_c4 (i := 199) rfl rfl⟩, ⟨by decide +kernel, by decide +kernel, by decide +kernel⟩⟩
theorem kt_L_127 : TV RL 127 yX12_look cX12_look 4 (some .int) 3 := ⟨BG_c7 (i := 178) rfl rfl, BG_c1 (i := 19) rfl rfl, BG_c7 (i := 175) rfl rfl, ⟨BG_c7 (i := 176) rfl rfl, BG_c7 (i := 177) rfl rfl⟩, ⟨by decide +kernel, by decide +kernel, by decide +kernel⟩⟩
theorem kt_L_128 : TV RL 128 yX11_bounds cX11_bounds 3 (some .int) 2 := ⟨BG_c4 (i := 208) rfl rfl, BG_c1 (i := 1) rfl rfl, BG_c4 (i := 205) rfl rfl, ⟨BG_c4 (i := 206) rfl rfl, BG_c4 (i := 207) rfl rfl⟩, ⟨by decide +kernel, by decide +kernel, by decide +kernel⟩⟩
theorem kt_L_131 : TV RL 131 yX12_bounds cX12_bounds 7 (some .int) 2 := ⟨BG_c7 (i := 182) rfl rfl, BG_c1 (i := 19) rfl rfl, BG_c7 (i := 179) rfl rfl, ⟨BG_c7 (i := 180) rfl rfl, BG_c7 (i := 181) rfl rfl⟩, ⟨by decide +kernel, by decide +kernel, by decide +kernel⟩⟩
theorem kt_L_132 : TV RL 132 yX11_hold cX11_hold 4 (some .int) 2 := ⟨BG_c4 (i := 219) rfl rfl, BG_c1 (i := 1) rfl rfl, BG_c4 (i := 216) rfl rfl, ⟨BG_c4 (i := 217) rfl rfl, BG_c4 (i := 218) rfl rfl⟩, ⟨by decide +kernel, by decide +kernel, by decide +kernel⟩⟩
theorem kt_L_135 : TV RL 135 yX12_hold cX12_hold 4 (some .int) 2 := ⟨BG_c7 (i := 186) rfl rfl, BG_c1 (i := 19) rfl rfl, BG_c7 (i := 183) rfl rfl, ⟨BG_c7 (i := 184) rfl rfl, BG_c7 (i := 185) rfl rfl⟩, ⟨by decide +kernel, by decide +kernel, by decide +kernel⟩⟩
theorem kt_L_136 : TV RL 136 yX11_way cX11_way 5 (some .int) 3 := ⟨BG_c4 (i := 223) rfl rfl, BG_c1 (i := 1) rfl rfl, BG_c4 (i := 220) rfl rfl, ⟨BG_c4 (i := 221) rfl rfl, BG_c4 (i := 222) rfl rfl⟩, ⟨by decide +kernel, by decide +kernel, by decide +kernel⟩⟩
theorem kt_L_139 : TV RL 139 yX12_way cX12_way 6 (some .int) 3 := ⟨BG_c7 (i := 190) rfl rfl, BG_c1 (i := 19) rfl rfl, BG_c7 (i := 187) rfl rfl, ⟨BG_c7 (i := 188) rfl rfl, BG_c7 (i := 189) rfl rfl⟩, ⟨by decide +kernel, by decide +kernel, by decide +kernel⟩⟩
theorem kt_L_140 : TV RL 140 yX11_couldAsk cX11_couldAsk 5 (some .int) 3 := ⟨BG_c5 (i := 19) rfl rfl, BG_c1 (i := 1) rfl rfl, BG_c5 (i := 16) rfl rfl, ⟨BG_c5 (i := 17) rfl rfl, BG_c5 (i := 18) rfl rfl⟩, ⟨by decide +kernel, by decide +kernel, by decide +kernel⟩⟩
theorem kt_L_143 : TV RL 143 yX12_couldAsk cX12_couldAsk 5 (some .int) 3 := ⟨BG_c7 (i := 213) rfl rfl, BG_c1 (i := 19) rfl rfl, BG_c7 (i := 210) rfl rfl, ⟨BG_c7 (i := 211) rfl rfl, BG_c7 (i := 212) rfl rfl⟩, ⟨by decide +kernel, by decide +kernel, by decide +kernel⟩⟩
theorem kt_L_144 : TV RL 144 yX11_asking cX11_asking 4 (some .int) 2 := ⟨BG_c5 (i := 23) rfl rfl, BG_c1 (i := 1) rfl rfl, BG_c5 (i := 20) rfl rfl, ⟨BG_c5 (i := 21) rfl rfl, BG_c5 (i := 22) rfl rfl⟩, ⟨by decide +kernel, by decide +kernel, by decide +kernel⟩⟩
theorem kt_L_147 : TV RL 147 yX12_asking cX12_asking 4 (some .int) 2 := ⟨BG_c7 (i := 217) rfl rfl, BG_c1 (i := 19) rfl rfl, BG_c7 (i := 214) rfl rfl, ⟨BG_c7 (i := 215) rfl rfl, BG_c7 (i := 216) rfl rfl⟩, ⟨by decide +kernel, by decide +kernel, by decide +kernel⟩⟩
theorem kt_L_148 : TV RL 148 yX11_toAsk cX11_toAsk 3 (some .int) 2 := ⟨BG_c5 (i := 27) rfl rfl, BG_c1 (i := 1) rfl rfl, BG_c5 (i := 24) rfl rfl, ⟨BG_c5 (i := 25) rfl rfl, BG_c5 (i := 26) rfl rfl⟩, ⟨by decide +kernel, by decide +kernel, by decide +kernel⟩⟩
theorem kt_L_151 : TV RL 151 yX12_toAsk cX12_toAsk 5 (some .int) 2 := ⟨BG_c7 (i := 221) rfl rfl, BG_c1 (i := 19) rfl rfl, BG_c7 (i := 218) rfl rfl, ⟨BG_c7 (i := 219) rfl rfl, BG_c7 (i := 220) rfl rfl⟩, ⟨by decide +kernel, by decide +kernel, by decide +kernel⟩⟩
theorem kt_L_152 : TV RL 152 yX11_count cX11_count 2 (some .int) 1 := ⟨BG_c5 (i := 64) rfl rfl, BG_c1 (i := 1) rfl rfl, BG_c5 (i := 61) rfl rfl, ⟨BG_c5 (i := 62) rfl rfl, BG_c5 (i := 63) rfl rfl⟩, ⟨by decide +kernel, by decide +kernel, by decide +kernel⟩⟩
theorem kt_L_155 : TV RL 155 yX12_count cX12_count 2 (some .int) 1 := ⟨BG_c7 (i := 237) rfl rfl, BG_c1 (i := 19) rfl rfl, BG_c7 (i := 234) rfl rfl, ⟨BG_c7 (i := 235) rfl rfl, BG_c7 (i := 236) rfl rfl⟩, ⟨by decide +kernel, by decide +kernel, by decide +kernel⟩⟩
theorem kt_L_156 : TV RL 156 yX11_sheet cX11_sheet 4 (some .int) 3 := ⟨BG_c5 (i := 77) rfl rfl, BG_c1 (i := 1) rfl rfl, BG_c5 (i := 74) rfl rfl, ⟨BG_c5 (i := 75) rfl rfl, BG_c5 (i := 76) rfl rfl⟩, ⟨by decide +kernel, by decide +kernel, by decide +kernel⟩⟩
theorem kt_L_159 : TV RL 159 yX12_sheet cX12_sheet 5 (some .int) 3 := ⟨BG_c8 (i := 5) rfl rfl, BG_c1 (i := 19) rfl rfl, BG_c8 (i := 2) rfl rfl, ⟨BG_c8 (i := 3) rfl rfl, BG_c8 (i := 4) rfl rfl⟩, ⟨by decide +kernel, by decide +kernel, by decide +kernel⟩⟩
theorem kt_L_160 : TV RL 160 yX11_cell cX11_cell 4 (some .int) 3 := ⟨BG_c5 (i := 94) rfl rfl, BG_c1 (i := 1) rfl rfl, BG_c5 (i := 91) rfl rfl, ⟨BG_c5 (i := 92) rfl rfl, BG_c5 (i := 93) rfl rfl⟩, ⟨by decide +kernel, by decide +kernel, by decide +kernel⟩⟩
theorem kt_L_163 : TV RL 163 yX12_cell cX12_cell 4 (some .int) 3 := ⟨BG_c8 (i := 15) rfl rfl, BG_c1 (i := 19) rfl rfl, BG_c8 (i := 12) rfl rfl, ⟨BG_c8 (i := 13) rfl rfl, BG_c8 (i := 14) rfl rfl⟩, ⟨by decide +kernel, by decide +kernel, by decide +kernel⟩⟩
theorem kt_L_164 : TV RL 164 yX11_copy cX11_copy 6 (some .int) 5 := ⟨BG_c5 (i := 109) rfl rfl, BG_c1 (i := 1) rfl rfl, BG_c5 (i := 106) rfl rfl, ⟨BG_c5 (i := 107) rfl rfl, BG_c5 (i := 108) rfl rfl⟩, ⟨by decide +kernel, by decide +kernel, by decide +kernel⟩⟩
theorem kt_L_167 : TV RL 167 yX12_copy cX12_copy 7 (some .int) 5 := ⟨BG_c8 (i := 22) rfl rfl, BG_c1 (i := 19) rfl rfl, BG_c8 (i := 19) rfl rfl, ⟨BG_c8 (i := 20) rfl rfl, BG_c8 (i := 21) rfl rfl⟩, ⟨by decide +kernel, by decide +kernel, by decide +kernel⟩⟩
theorem kt_L_168 : TV RL 168 yX11_costs cX11_costs 6 (some .int) 5 := ⟨BG_c5 (i := 118) rfl rfl, BG_c1 (i := 1) rfl rfl, BG_c5 (i := 115) rfl rfl, ⟨BG_c5 (i := 116) rfl rfl, BG_c5 (i := 117) rfl rfl⟩, ⟨by decide +kernel, by decide +kernel, by decide +kernel⟩⟩
theorem kt_L_171 : TV RL 171 yX12_costs cX12_costs 10 (some .int) 5 := ⟨BG_c8 (i := 26) rfl rfl, BG_c1 (i := 19) rfl rfl, BG_c8 (i := 23) rfl rfl, ⟨BG_c8 (i := 24) rfl rfl, BG_c8 (i := 25) rfl rfl⟩, ⟨by decide +kernel, by decide +kernel, by decide +kernel⟩⟩
theorem kt_L_172 : TV RL 172 yX11_taken cX11_taken 3 (some .int) 2 := ⟨BG_c5 (i := 131) rfl rfl, BG_c1 (i := 1) rfl rfl, BG_c5 (i := 128) rfl rfl, ⟨BG_c5 (i := 129) rfl rfl, BG_c5 (i := 130) rfl rfl⟩, ⟨by decide +kernel, by decide +kernel, by decide +kernel⟩⟩
theorem kt_L_175 : TV RL 175 yX12_taken cX12_taken 5 (some .int) 2 := ⟨BG_c8 (i := 31) rfl rfl, BG_c1 (i := 19) rfl rfl, BG_c8 (i := 28) rfl rfl, ⟨BG_c8 (i := 29) rfl rfl, BG_c8 (i := 30) rfl rfl⟩, ⟨by decide +kernel, by decide +kernel, by decide +kernel⟩⟩
theorem kt_X12_5 : TS RX12 5 yX12_isIn cX12_isIn 6 (some .boolean) 3 := ⟨BG_c5 (i := 145) rfl rfl, BG_c1 (i := 19) rfl rfl, BG_c5 (i := 143) rfl rfl, BG_c5 (i := 144) rfl rfl, ⟨by decide +kernel, by decide +kernel, by decide +kernel⟩⟩
theorem kt_X12_19 : TS RX12 19 yX12_isPlot cX12_isPlot 1 (some .boolean) 1 := ⟨BG_c5 (i := 152) rfl rfl, BG_c1 (i := 19) rfl rfl, BG_c5 (i := 150) rfl rfl, BG_c5 (i := 151) rfl rfl, ⟨by decide +kernel, by decide +kernel, by decide +kernel⟩⟩
theorem kt_X12_23 : TS RX12 23 yX12_isOwner cX12_isOwner 1 (some .boolean) 1 := ⟨BG_c5 (i := 156) rfl rfl, BG_c1 (i := 19) rfl rfl, BG_c5 (i := 154) rfl rfl, BG_c5 (i := 155) rfl rfl, ⟨by decide +kernel, by decide +kernel, by decide +kernel⟩⟩
theorem kt_X12_39 : TS RX12 39 yX12_isDay cX12_isDay 1 (some .boolean) 1 := ⟨BG_c5 (i := 165) rfl rfl, BG_c1 (i := 19) rfl rfl, BG_c5 (i := 163) rfl rfl, BG_c5 (i := 164) rfl rfl, ⟨by decide +kernel, by decide +kernel, by decide +kernel⟩⟩
theorem kt_X12_42 : TV RX12 42 yX12_ownerIn cX12_ownerIn 6 (some .int) 2 := ⟨BG_c5 (i := 170) rfl rfl, BG_c1 (i := 19) rfl rfl, BG_c5 (i := 166) rfl rfl, ⟨BG_c5 (i := 168) rfl rfl, BG_se (i := 30) (by decide +kernel) rfl⟩, ⟨by decide +kernel, by decide +kernel, by decide +kernel⟩⟩
theorem kt_X12_78 : TV RX12 78 yX12_highOf cX12_highOf 2 (some .int) 1 := ⟨BG_c5 (i := 190) rfl rfl, BG_c1 (i := 19) rfl rfl, BG_c5 (i := 187) rfl rfl, ⟨BG_c5 (i := 189) rfl rfl, BG_se (i := 31) (by decide +kernel) rfl⟩, ⟨by decide +kernel, by decide +kernel, by decide +kernel⟩⟩
theorem kt_X12_98 : TV RX12 98 yX12_isTower cX12_isTower 2 (some .boolean) 1 := ⟨BG_c5 (i := 208) rfl rfl, BG_c1 (i := 19) rfl rfl, BG_c5 (i := 205) rfl rfl, ⟨BG_c5 (i := 207) rfl rfl, BG_se (i := 32) (by decide +kernel) rfl⟩, ⟨by decide +kernel, by decide +kernel, by decide +kernel⟩⟩
theorem kt_X12_123 : TV RX12 123 yX12_isSpan cX12_isSpan 2 (some .boolean) 1 := ⟨BG_c5 (i := 218) rfl rfl, BG_c1 (i := 19) rfl rfl, BG_c5 (i := 215) rfl rfl, ⟨BG_c5 (i := 217) rfl rfl, BG_se (i := 33) (by decide +kernel) rfl⟩, ⟨by decide +kernel, by decide +kernel, by decide +kernel⟩⟩
theorem kt_X12_128 : Cond.methodLink RX12 128 Lib.Math.max.name ∈ BG := BG_c5 (i := 229) rfl rfl
theorem kt_X12_133 : Cond.methodLink RX12 133 Lib.Math.min.name ∈ BG := BG_c5 (i := 234) rfl rfl
theorem kt_X12_136 : TV RX12 136 yX12_sag cX12_sag 2 (some .int) 1 := ⟨BG_c5 (i := 228) rfl rfl, BG_c1 (i := 19) rfl rfl, BG_c5 (i := 225) rfl rfl, ⟨BG_c5 (i := 227) rfl rfl, BG_se (i := 34) (by decide +kernel) rfl⟩, ⟨by decide +kernel, by decide +kernel, by decide +kernel⟩⟩
theorem kt_X12_139 : TV RX12 139 yX12_low cX12_low 2 (some .int) 1 := ⟨BG_c5 (i := 233) rfl rfl, BG_c1 (i := 19) rfl rfl, BG_c5 (i := 230) rfl rfl, ⟨BG_c5 (i := 232) rfl rfl, BG_se (i := 35) (by decide +kernel) rfl⟩, ⟨by decide +kernel, by decide +kernel, by decide +kernel⟩⟩
theorem kt_X12_144 : TV RX12 144 yX12_near cX12_near 2 (some .int) 1 := ⟨BG_c5 (i := 238) rfl rfl, BG_c1 (i := 19) rfl rfl, BG_c5 (i := 235) rfl rfl, ⟨BG_c5 (i := 237) rfl rfl, BG_se (i := 36) (by decide +kernel) rfl⟩, ⟨by decide +kernel, by decide +kernel, by decide +kernel⟩⟩
theorem kt_X12_147 : TV RX12 147 yX12_ends cX12_ends 4 (some .int) 1 := ⟨BG_c6 (i := 2) rfl rfl, BG_c1 (i := 19) rfl rfl, BG_c5 (i := 239) rfl rfl, ⟨BG_c6 (i := 1) rfl rfl, BG_se (i := 37) (by decide +kernel) rfl⟩, ⟨by decide +kernel, by decide +kernel, by decide +kernel⟩⟩
theorem kt_X12_157 : TV RX12 157 yX12_isLeave cX12_isLeave 2 (some .boolean) 1 := ⟨BG_c6 (i := 32) rfl rfl, BG_c1 (i := 19) rfl rfl, BG_c6 (i := 29) rfl rfl, ⟨BG_c6 (i := 31) rfl rfl, BG_se (i := 43) (by decide +kernel) rfl⟩, ⟨by decide +kernel, by decide +kernel, by decide +kernel⟩⟩
theorem kt_X12_184 : TV RX12 184 yX12_lastsOf cX12_lastsOf 2 (some .int) 1 := ⟨BG_c6 (i := 18) rfl rfl, BG_c1 (i := 19) rfl rfl, BG_c6 (i := 15) rfl rfl, ⟨BG_c6 (i := 17) rfl rfl, BG_se (i := 41) (by decide +kernel) rfl⟩, ⟨by decide +kernel, by decide +kernel, by decide +kernel⟩⟩
theorem kt_X12_190 : TV RX12 190 yX12_stands cX12_stands 6 (some .boolean) 2 := ⟨BG_c6 (i := 14) rfl rfl, BG_c1 (i := 19) rfl rfl, BG_c6 (i := 11) rfl rfl, ⟨BG_c6 (i := 13) rfl rfl, BG_se (i := 40) (by decide +kernel) rfl⟩, ⟨by decide +kernel, by decide +kernel, by decide +kernel⟩⟩
theorem kt_X12_194 : TV RX12 194 yX12_yearlyOf cX12_yearlyOf 3 (some .int) 1 := ⟨BG_c6 (i := 40) rfl rfl, BG_c1 (i := 19) rfl rfl, BG_c6 (i := 37) rfl rfl, ⟨BG_c6 (i := 39) rfl rfl, BG_se (i := 44) (by decide +kernel) rfl⟩, ⟨by decide +kernel, by decide +kernel, by decide +kernel⟩⟩
theorem kt_X12_197 : TV RX12 197 yX12_isInForce cX12_isInForce 4 (some .boolean) 2 := ⟨BG_c6 (i := 10) rfl rfl, BG_c1 (i := 19) rfl rfl, BG_c6 (i := 7) rfl rfl, ⟨BG_c6 (i := 9) rfl rfl, BG_se (i := 39) (by decide +kernel) rfl⟩, ⟨by decide +kernel, by decide +kernel, by decide +kernel⟩⟩
theorem kt_X12_204 : TV RX12 204 yX12_hangs cX12_hangs 4 (some .boolean) 2 := ⟨BG_c6 (i := 56) rfl rfl, BG_c1 (i := 19) rfl rfl, BG_c6 (i := 53) rfl rfl, ⟨BG_c6 (i := 55) rfl rfl, BG_se (i := 45) (by decide +kernel) rfl⟩, ⟨by decide +kernel, by decide +kernel, by decide +kernel⟩⟩
theorem kt_X12_207 : TV RX12 207 yX12_hasIn cX12_hasIn 5 (some .int) 2 := ⟨BG_c6 (i := 6) rfl rfl, BG_c1 (i := 19) rfl rfl, BG_c6 (i := 3) rfl rfl, ⟨BG_c6 (i := 5) rfl rfl, BG_se (i := 38) (by decide +kernel) rfl⟩, ⟨by decide +kernel, by decide +kernel, by decide +kernel⟩⟩
theorem kt_X12_210 : TV RX12 210 yX12_endsAt cX12_endsAt 5 (some .int) 3 := ⟨BG_c6 (i := 22) rfl rfl, BG_c1 (i := 19) rfl rfl, BG_c6 (i := 19) rfl rfl, ⟨BG_c6 (i := 21) rfl rfl, BG_se (i := 42) (by decide +kernel) rfl⟩, ⟨by decide +kernel, by decide +kernel, by decide +kernel⟩⟩
theorem kt_X12_218 : TV RX12 218 yX12_clearComes cX12_clearComes 2 none 0 := ⟨BG_c6 (i := 68) rfl rfl, BG_c1 (i := 19) rfl rfl, BG_c6 (i := 65) rfl rfl, ⟨BG_c6 (i := 67) rfl rfl, BG_se (i := 46) (by decide +kernel) rfl⟩, ⟨by decide +kernel, by decide +kernel, by decide +kernel⟩⟩
theorem kt_X12_222 : TV RX12 222 yX12_parted cX12_parted 10 (some .long) 1 := ⟨BG_c6 (i := 72) rfl rfl, BG_c1 (i := 19) rfl rfl, BG_c6 (i := 69) rfl rfl, ⟨BG_c6 (i := 71) rfl rfl, BG_se (i := 47) (by decide +kernel) rfl⟩, ⟨by decide +kernel, by decide +kernel, by decide +kernel⟩⟩
theorem kt_X12_238 : TV RX12 238 yX12_isLetter cX12_isLetter 2 (some .boolean) 1 := ⟨BG_c6 (i := 93) rfl rfl, BG_c1 (i := 19) rfl rfl, BG_c6 (i := 90) rfl rfl, ⟨BG_c6 (i := 92) rfl rfl, BG_se (i := 50) (by decide +kernel) rfl⟩, ⟨by decide +kernel, by decide +kernel, by decide +kernel⟩⟩
theorem kt_X12_257 : TV RX12 257 yX12_isDigit cX12_isDigit 2 (some .boolean) 1 := ⟨BG_c6 (i := 101) rfl rfl, BG_c1 (i := 19) rfl rfl, BG_c6 (i := 98) rfl rfl, ⟨BG_c6 (i := 100) rfl rfl, BG_se (i := 52) (by decide +kernel) rfl⟩, ⟨by decide +kernel, by decide +kernel, by decide +kernel⟩⟩
theorem kt_X12_260 : TV RX12 260 yX12_readWord cX12_readWord 5 none 0 := ⟨BG_c6 (i := 97) rfl rfl, BG_c1 (i := 19) rfl rfl, BG_c6 (i := 94) rfl rfl, ⟨BG_c6 (i := 96) rfl rfl, BG_se (i := 51) (by decide +kernel) rfl⟩, ⟨by decide +kernel, by decide +kernel, by decide +kernel⟩⟩
theorem kt_X12_263 : TV RX12 263 yX12_readNumber cX12_readNumber 1 none 0 := ⟨BG_c6 (i := 105) rfl rfl, BG_c1 (i := 19) rfl rfl, BG_c6 (i := 102) rfl rfl, ⟨BG_c6 (i := 104) rfl rfl, BG_se (i := 53) (by decide +kernel) rfl⟩, ⟨by decide +kernel, by decide +kernel, by decide +kernel⟩⟩
theorem kt_X12_281 : TS RX12 281 yX12_rank cX12_rank 1 (some .int) 1 := ⟨BG_c6 (i := 124) rfl rfl, BG_c1 (i := 19) rfl rfl, BG_c6 (i := 122) rfl rfl, BG_c6 (i := 123) rfl rfl, ⟨by decide +kernel, by decide +kernel, by decide +kernel⟩⟩
theorem kt_X12_287 : TV RX12 287 yX12_emit cX12_emit 2 none 1 := ⟨BG_c6 (i := 117) rfl rfl, BG_c1 (i := 19) rfl rfl, BG_c6 (i := 114) rfl rfl, ⟨BG_c6 (i := 116) rfl rfl, BG_se (i := 56) (by decide +kernel) rfl⟩, ⟨by decide +kernel, by decide +kernel, by decide +kernel⟩⟩
theorem kt_X12_291 : TV RX12 291 yX12_isSign cX12_isSign 2 (some .boolean) 1 := ⟨BG_c6 (i := 128) rfl rfl, BG_c1 (i := 19) rfl rfl, BG_c6 (i := 125) rfl rfl, ⟨BG_c6 (i := 127) rfl rfl, BG_se (i := 58) (by decide +kernel) rfl⟩, ⟨by decide +kernel, by decide +kernel, by decide +kernel⟩⟩
theorem kt_X12_294 : TV RX12 294 yX12_isKey cX12_isKey 2 (some .boolean) 1 := ⟨BG_c6 (i := 109) rfl rfl, BG_c1 (i := 19) rfl rfl, BG_c6 (i := 106) rfl rfl, ⟨BG_c6 (i := 108) rfl rfl, BG_se (i := 54) (by decide +kernel) rfl⟩, ⟨by decide +kernel, by decide +kernel, by decide +kernel⟩⟩
theorem kt_X12_303 : TV RX12 303 yX12_doAll cX12_doAll 2 none 1 := ⟨BG_c6 (i := 121) rfl rfl, BG_c1 (i := 19) rfl rfl, BG_c6 (i := 118) rfl rfl, ⟨BG_c6 (i := 120) rfl rfl, BG_se (i := 57) (by decide +kernel) rfl⟩, ⟨by decide +kernel, by decide +kernel, by decide +kernel⟩⟩
theorem kt_X12_306 : TV RX12 306 yX12_await cX12_await 2 none 1 := ⟨BG_c6 (i := 136) rfl rfl, BG_c1 (i := 19) rfl rfl, BG_c6 (i := 133) rfl rfl, ⟨BG_c6 (i := 135) rfl rfl, BG_se (i := 60) (by decide +kernel) rfl⟩, ⟨by decide +kernel, by decide +kernel, by decide +kernel⟩⟩
theorem kt_X12_309 : TV RX12 309 yX12_ahead cX12_ahead 3 (some .boolean) 1 := ⟨BG_c6 (i := 132) rfl rfl, BG_c1 (i := 19) rfl rfl, BG_c6 (i := 129) rfl rfl, ⟨BG_c6 (i := 131) rfl rfl, BG_se (i := 59) (by decide +kernel) rfl⟩, ⟨by decide +kernel, by decide +kernel, by decide +kernel⟩⟩
theorem kt_X12_316 : TV RX12 316 yX12_between cX12_between 2 (some .boolean) 0 := ⟨BG_c6 (i := 140) rfl rfl, BG_c1 (i := 19) rfl rfl, BG_c6 (i := 137) rfl rfl, ⟨BG_c6 (i := 139) rfl rfl, BG_se (i := 61) (by decide +kernel) rfl⟩, ⟨by decide +kernel, by decide +kernel, by decide +kernel⟩⟩
theorem kt_X12_320 : TV RX12 320 yX12_closes cX12_closes 1 (some .boolean) 0 := ⟨BG_c6 (i := 144) rfl rfl, BG_c1 (i := 19) rfl rfl, BG_c6 (i := 141) rfl rfl, ⟨BG_c6 (i := 143) rfl rfl, BG_se (i := 62) (by decide +kernel) rfl⟩, ⟨by decide +kernel, by decide +kernel, by decide +kernel⟩⟩
theorem kt_X12_323 : TV RX12 323 yX12_next cX12_next 2 none 0 := ⟨BG_c6 (i := 89) rfl rfl, BG_c1 (i := 19) rfl rfl, BG_c6 (i := 86) rfl rfl, ⟨BG_c6 (i := 88) rfl rfl, BG_se (i := 49) (by decide +kernel) rfl⟩, ⟨by decide +kernel, by decide +kernel, by decide +kernel⟩⟩
theorem kt_X12_326 : TV RX12 326 yX12_readE cX12_readE 5 (some .boolean) 1 := ⟨BG_c6 (i := 113) rfl rfl, BG_c1 (i := 19) rfl rfl, BG_c6 (i := 110) rfl rfl, ⟨BG_c6 (i := 112) rfl rfl, BG_se (i := 55) (by decide +kernel) rfl⟩, ⟨by decide +kernel, by decide +kernel, by decide +kernel⟩⟩
theorem kt_X12_332 : TV RX12 332 yX12_readAll cX12_readAll 3 (some .int) 1 := ⟨BG_c6 (i := 85) rfl rfl, BG_c1 (i := 19) rfl rfl, BG_c6 (i := 82) rfl rfl, ⟨BG_c6 (i := 84) rfl rfl, BG_se (i := 48) (by decide +kernel) rfl⟩, ⟨by decide +kernel, by decide +kernel, by decide +kernel⟩⟩
theorem kt_X12_341 : TV RX12 341 yX12_nameOf cX12_nameOf 3 (some .int) 2 := ⟨BG_c7 (i := 155) rfl rfl, BG_c1 (i := 19) rfl rfl, BG_c7 (i := 152) rfl rfl, ⟨BG_c7 (i := 154) rfl rfl, BG_se (i := 64) (by decide +kernel) rfl⟩, ⟨by decide +kernel, by decide +kernel, by decide +kernel⟩⟩
theorem kt_X12_344 : TS RX12 344 yX12_done cX12_done 3 (some .int) 3 := ⟨BG_c7 (i := 158) rfl rfl, BG_c1 (i := 19) rfl rfl, BG_c7 (i := 156) rfl rfl, BG_c7 (i := 157) rfl rfl, ⟨by decide +kernel, by decide +kernel, by decide +kernel⟩⟩
theorem kt_X12_403 : TV RX12 403 yX12_partOf cX12_partOf 7 (some .int) 2 := ⟨BG_c7 (i := 151) rfl rfl, BG_c1 (i := 19) rfl rfl, BG_c7 (i := 148) rfl rfl, ⟨BG_c7 (i := 150) rfl rfl, BG_se (i := 63) (by decide +kernel) rfl⟩, ⟨by decide +kernel, by decide +kernel, by decide +kernel⟩⟩
theorem kt_X12_409 : TV RX12 409 yX12_isDoubled cX12_isDoubled 4 (some .boolean) 1 := ⟨BG_c7 (i := 170) rfl rfl, BG_c1 (i := 19) rfl rfl, BG_c7 (i := 167) rfl rfl, ⟨BG_c7 (i := 169) rfl rfl, BG_se (i := 65) (by decide +kernel) rfl⟩, ⟨by decide +kernel, by decide +kernel, by decide +kernel⟩⟩
theorem kt_X12_415 : TV RX12 415 yX12_costOf cX12_costOf 5 (some .int) 3 := ⟨BG_c7 (i := 198) rfl rfl, BG_c1 (i := 19) rfl rfl, BG_c7 (i := 195) rfl rfl, ⟨BG_c7 (i := 197) rfl rfl, BG_se (i := 67) (by decide +kernel) rfl⟩, ⟨by decide +kernel, by decide +kernel, by decide +kernel⟩⟩
theorem kt_X12_418 : TS RX12 418 yX12_beside cX12_beside 2 (some .int) 2 := ⟨BG_c7 (i := 201) rfl rfl, BG_c1 (i := 19) rfl rfl, BG_c7 (i := 199) rfl rfl, BG_c7 (i := 200) rfl rfl, ⟨by decide +kernel, by decide +kernel, by decide +kernel⟩⟩
theorem kt_X12_421 : TV RX12 421 yX12_isShorter cX12_isShorter 4 (some .boolean) 3 := ⟨BG_c7 (i := 205) rfl rfl, BG_c1 (i := 19) rfl rfl, BG_c7 (i := 202) rfl rfl, ⟨BG_c7 (i := 204) rfl rfl, BG_se (i := 68) (by decide +kernel) rfl⟩, ⟨by decide +kernel, by decide +kernel, by decide +kernel⟩⟩
theorem kt_X12_425 : TV RX12 425 yX12_findWays cX12_findWays 9 none 3 := ⟨BG_c7 (i := 194) rfl rfl, BG_c1 (i := 19) rfl rfl, BG_c7 (i := 191) rfl rfl, ⟨BG_c7 (i := 193) rfl rfl, BG_se (i := 66) (by decide +kernel) rfl⟩, ⟨by decide +kernel, by decide +kernel, by decide +kernel⟩⟩
theorem kt_X12_429 : TV RX12 429 yX12_nextOf cX12_nextOf 5 (some .int) 1 := ⟨BG_c7 (i := 209) rfl rfl, BG_c1 (i := 19) rfl rfl, BG_c7 (i := 206) rfl rfl, ⟨BG_c7 (i := 208) rfl rfl, BG_se (i := 69) (by decide +kernel) rfl⟩, ⟨by decide +kernel, by decide +kernel, by decide +kernel⟩⟩
theorem kt_X12_438 : TV RX12 438 yX12_orderOf cX12_orderOf 9 none 2 := ⟨BG_c7 (i := 229) rfl rfl, BG_c1 (i := 19) rfl rfl, BG_c7 (i := 226) rfl rfl, ⟨BG_c7 (i := 228) rfl rfl, BG_se (i := 71) (by decide +kernel) rfl⟩, ⟨by decide +kernel, by decide +kernel, by decide +kernel⟩⟩
theorem kt_X12_442 : TV RX12 442 yX12_judge cX12_judge 6 none 1 := ⟨BG_c7 (i := 233) rfl rfl, BG_c1 (i := 19) rfl rfl, BG_c7 (i := 230) rfl rfl, ⟨BG_c7 (i := 232) rfl rfl, BG_se (i := 72) (by decide +kernel) rfl⟩, ⟨by decide +kernel, by decide +kernel, by decide +kernel⟩⟩
theorem kt_X12_445 : TV RX12 445 yX12_orderAll cX12_orderAll 4 none 1 := ⟨BG_c7 (i := 225) rfl rfl, BG_c1 (i := 19) rfl rfl, BG_c7 (i := 222) rfl rfl, ⟨BG_c7 (i := 224) rfl rfl, BG_se (i := 70) (by decide +kernel) rfl⟩, ⟨by decide +kernel, by decide +kernel, by decide +kernel⟩⟩
theorem kt_X12_448 : TV RX12 448 yX12_spansWith cX12_spansWith 4 (some .int) 1 := ⟨BG_c8 (i := 1) rfl rfl, BG_c1 (i := 19) rfl rfl, BG_c7 (i := 238) rfl rfl, ⟨BG_c8 (i := 0) rfl rfl, BG_se (i := 73) (by decide +kernel) rfl⟩, ⟨by decide +kernel, by decide +kernel, by decide +kernel⟩⟩
theorem kt_X12_454 : TS RX12 454 yX12_isSheet cX12_isSheet 1 (some .boolean) 1 := ⟨BG_c8 (i := 8) rfl rfl, BG_c1 (i := 19) rfl rfl, BG_c8 (i := 6) rfl rfl, BG_c8 (i := 7) rfl rfl, ⟨by decide +kernel, by decide +kernel, by decide +kernel⟩⟩
theorem kt_X12_461 : TS RX12 461 yX12_cutTo cX12_cutTo 2 (some .int) 2 := ⟨BG_c8 (i := 18) rfl rfl, BG_c1 (i := 19) rfl rfl, BG_c8 (i := 16) rfl rfl, BG_c8 (i := 17) rfl rfl, ⟨by decide +kernel, by decide +kernel, by decide +kernel⟩⟩
theorem kt_X12_464 : TV RX12 464 yX12_set cX12_set 5 (some .int) 3 := ⟨BG_c5 (i := 179) rfl rfl, BG_c1 (i := 19) rfl rfl, BG_c8 (i := 27) rfl rfl, ⟨BG_c5 (i := 177) rfl rfl, BG_c5 (i := 178) rfl rfl⟩, ⟨by decide +kernel, by decide +kernel, by decide +kernel⟩⟩
theorem kt_J0_335 : TV RJ0 335 yJ0_coder_7d493 cJ0_coder_7d493 1 (some .byte) 0 := ⟨BG_c2 (i := 175) rfl rfl, BG_c1 (i := 14) rfl rfl, BG_c2 (i := 172) rfl rfl, ⟨BG_c2 (i := 173) rfl rfl, BG_c2 (i := 174) rfl rfl⟩, ⟨by decide +kernel, by decide +kernel, by decide +kernel⟩⟩
theorem kt_J0_492 : TV RJ0 492 yJ0_isLatin1_aae02 cJ0_isLatin1_aae02 1 (some .boolean) 0 := ⟨BG_c2 (i := 185) rfl rfl, BG_c1 (i := 14) rfl rfl, BG_c2 (i := 182) rfl rfl, ⟨BG_c2 (i := 183) rfl rfl, BG_c2 (i := 184) rfl rfl⟩, ⟨by decide +kernel, by decide +kernel, by decide +kernel⟩⟩
theorem kt_J0_495 : TS RJ0 495 yJ1_charAt_3b067 cJ1_charAt_3b067 2 (some .char) 2 := ⟨BG_c2 (i := 188) rfl rfl, BG_c1 (i := 15) rfl rfl, BG_c2 (i := 186) rfl rfl, BG_c2 (i := 187) rfl rfl, ⟨by decide +kernel, by decide +kernel, by decide +kernel⟩⟩
theorem kt_J0_498 : TS RJ0 498 yJ2_charAt_3b067 cJ2_charAt_3b067 2 (some .char) 2 := ⟨BG_c2 (i := 199) rfl rfl, BG_c1 (i := 17) rfl rfl, BG_c2 (i := 197) rfl rfl, BG_c2 (i := 198) rfl rfl, ⟨by decide +kernel, by decide +kernel, by decide +kernel⟩⟩
theorem kt_J0_1059 : TS RJ0 1059 yJ3_checkIndex_8e157 cJ3_checkIndex_8e157 3 (some .int) 3 := ⟨BG_c2 (i := 196) rfl rfl, BG_c1 (i := 16) rfl rfl, BG_c2 (i := 194) rfl rfl, BG_c2 (i := 195) rfl rfl, ⟨by decide +kernel, by decide +kernel, by decide +kernel⟩⟩
theorem kt_J1_9 : TS RJ1 9 yJ0_checkIndex_df160 cJ0_checkIndex_df160 2 none 2 := ⟨BG_c2 (i := 191) rfl rfl, BG_c1 (i := 14) rfl rfl, BG_c2 (i := 189) rfl rfl, BG_c2 (i := 190) rfl rfl, ⟨by decide +kernel, by decide +kernel, by decide +kernel⟩⟩
theorem kt_J2_48 : TS RJ2 48 yJ2_length_9d52b cJ2_length_9d52b 1 (some .int) 1 := ⟨BG_c2 (i := 205) rfl rfl, BG_c1 (i := 17) rfl rfl, BG_c2 (i := 203) rfl rfl, BG_c2 (i := 204) rfl rfl, ⟨by decide +kernel, by decide +kernel, by decide +kernel⟩⟩
theorem kt_J2_67 : TS RJ2 67 yJ2_checkIndex_2214a cJ2_checkIndex_2214a 2 none 2 := ⟨BG_c2 (i := 202) rfl rfl, BG_c1 (i := 17) rfl rfl, BG_c2 (i := 200) rfl rfl, BG_c2 (i := 201) rfl rfl, ⟨by decide +kernel, by decide +kernel, by decide +kernel⟩⟩
theorem kt_J2_71 : TS RJ2 71 yJ2_getChar_3b067 cJ2_getChar_3b067 2 (some .char) 2 := ⟨BG_c2 (i := 209) rfl rfl, BG_c1 (i := 17) rfl rfl, BG_c2 (i := 207) rfl rfl, BG_c2 (i := 208) rfl rfl, ⟨by decide +kernel, by decide +kernel, by decide +kernel⟩⟩
theorem kt_J2_414 : TS RJ2 414 yJ0_checkIndex_df160 cJ0_checkIndex_df160 2 none 2 := ⟨BG_c2 (i := 191) rfl rfl, BG_c1 (i := 14) rfl rfl, BG_c2 (i := 206) rfl rfl, BG_c2 (i := 190) rfl rfl, ⟨by decide +kernel, by decide +kernel, by decide +kernel⟩⟩
theorem kn_X11_within : TN yX11_within cX11_within 3 (some .boolean) 3 := ⟨BG_c3 (i := 5) rfl rfl, BG_c1 (i := 1) rfl rfl, BG_c3 (i := 4) rfl rfl, ⟨by decide +kernel, by decide +kernel, by decide +kernel⟩⟩
theorem kn_X11_isPlot : TN yX11_isPlot cX11_isPlot 1 (some .boolean) 1 := ⟨BG_c3 (i := 123) rfl rfl, BG_c1 (i := 1) rfl rfl, BG_c3 (i := 122) rfl rfl, ⟨by decide +kernel, by decide +kernel, by decide +kernel⟩⟩
