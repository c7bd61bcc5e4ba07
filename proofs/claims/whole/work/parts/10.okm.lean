/-! The tables hold what okM says. -/
theorem okM_0 : okM 0 := ⟨WL_of (q := 1) (j := 25) rfl rfl, WL_of (q := 1) (j := 1) rfl rfl, Or.inr (Or.inr ⟨rfl, WL_of (q := 1) (j := 24) rfl rfl, rfl, rfl⟩), by decide +kernel, rfl, ⟨by decide +kernel, by decide +kernel, by decide +kernel⟩, by decide⟩
theorem okM_1 : okM 1 := ⟨WL_of (q := 1) (j := 33) rfl rfl, WL_of (q := 1) (j := 2) rfl rfl, Or.inr (Or.inr ⟨rfl, WL_of (q := 1) (j := 32) rfl rfl, rfl, rfl⟩), by decide +kernel, rfl, ⟨by decide +kernel, by decide +kernel, by decide +kernel⟩, by decide⟩
theorem okM_2 : okM 2 := ⟨WL_of (q := 1) (j := 65) rfl rfl, WL_of (q := 1) (j := 3) rfl rfl, Or.inr (Or.inr ⟨rfl, WL_of (q := 1) (j := 64) rfl rfl, rfl, rfl⟩), by decide +kernel, rfl, ⟨by decide +kernel, by decide +kernel, by decide +kernel⟩, by decide⟩
theorem okM_3 : okM 3 := ⟨WL_of (q := 1) (j := 133) rfl rfl, WL_of (q := 1) (j := 4) rfl rfl, Or.inr (Or.inr ⟨rfl, WL_of (q := 1) (j := 132) rfl rfl, rfl, rfl⟩), by decide +kernel, rfl, ⟨by decide +kernel, by decide +kernel, by decide +kernel⟩, by decide⟩
theorem okM_4 : okM 4 := ⟨WL_of (q := 1) (j := 139) rfl rfl, WL_of (q := 1) (j := 5) rfl rfl, Or.inr (Or.inr ⟨rfl, WL_of (q := 1) (j := 138) rfl rfl, rfl, rfl⟩), by decide +kernel, rfl, ⟨by decide +kernel, by decide +kernel, by decide +kernel⟩, by decide⟩
theorem okM_5 : okM 5 := ⟨WL_of (q := 1) (j := 143) rfl rfl, WL_of (q := 1) (j := 5) rfl rfl, Or.inl ⟨rfl, WL_of (q := 1) (j := 142) rfl rfl⟩, by decide +kernel, rfl, ⟨by decide +kernel, by decide +kernel, by decide +kernel⟩, by decide⟩
theorem okM_6 : okM 6 := ⟨WL_of (q := 1) (j := 146) rfl rfl, WL_of (q := 1) (j := 6) rfl rfl, Or.inl ⟨rfl, WL_of (q := 1) (j := 145) rfl rfl⟩, by decide +kernel, rfl, ⟨by decide +kernel, by decide +kernel, by decide +kernel⟩, by decide⟩
theorem okM_7 : okM 7 := ⟨WL_of (q := 1) (j := 149) rfl rfl, WL_of (q := 1) (j := 5) rfl rfl, Or.inl ⟨rfl, WL_of (q := 1) (j := 148) rfl rfl⟩, by decide +kernel, rfl, ⟨by decide +kernel, by decide +kernel, by decide +kernel⟩, by decide⟩
theorem okM_8 : okM 8 := ⟨WL_of (q := 1) (j := 191) rfl rfl, WL_of (q := 1) (j := 7) rfl rfl, Or.inr (Or.inr ⟨rfl, WL_of (q := 1) (j := 190) rfl rfl, rfl, rfl⟩), by decide +kernel, rfl, ⟨by decide +kernel, by decide +kernel, by decide +kernel⟩, by decide⟩
theorem okM_9 : okM 9 := ⟨WL_of (q := 1) (j := 217) rfl rfl, WL_of (q := 1) (j := 8) rfl rfl, Or.inr (Or.inr ⟨rfl, WL_of (q := 1) (j := 216) rfl rfl, rfl, rfl⟩), by decide +kernel, rfl, ⟨by decide +kernel, by decide +kernel, by decide +kernel⟩, by decide⟩
theorem okM_10 : okM 10 := ⟨WL_of (q := 1) (j := 223) rfl rfl, WL_of (q := 1) (j := 9) rfl rfl, Or.inr (Or.inr ⟨rfl, WL_of (q := 1) (j := 222) rfl rfl, rfl, rfl⟩), by decide +kernel, rfl, ⟨by decide +kernel, by decide +kernel, by decide +kernel⟩, by decide⟩
theorem okM_11 : okM 11 := ⟨WL_of (q := 2) (j := 14) rfl rfl, WL_of (q := 1) (j := 10) rfl rfl, Or.inr (Or.inr ⟨rfl, WL_of (q := 2) (j := 13) rfl rfl, rfl, rfl⟩), by decide +kernel, rfl, ⟨by decide +kernel, by decide +kernel, by decide +kernel⟩, by decide⟩
theorem okM_12 : okM 12 := ⟨WL_of (q := 2) (j := 39) rfl rfl, WL_of (q := 1) (j := 11) rfl rfl, Or.inr (Or.inr ⟨rfl, WL_of (q := 2) (j := 38) rfl rfl, rfl, rfl⟩), by decide +kernel, rfl, ⟨by decide +kernel, by decide +kernel, by decide +kernel⟩, by decide⟩
theorem okM_13 : okM 13 := ⟨WL_of (q := 2) (j := 118) rfl rfl, WL_of (q := 1) (j := 1) rfl rfl, Or.inr (Or.inl ⟨rfl, WL_of (q := 2) (j := 116) rfl rfl, WL_of (q := 2) (j := 117) rfl rfl⟩), by decide +kernel, rfl, ⟨by decide +kernel, by decide +kernel, by decide +kernel⟩, by decide⟩
theorem okM_14 : okM 14 := ⟨WL_of (q := 2) (j := 122) rfl rfl, WL_of (q := 1) (j := 1) rfl rfl, Or.inr (Or.inl ⟨rfl, WL_of (q := 2) (j := 121) rfl rfl, WL_of (q := 0) (j := 0) rfl rfl⟩), by decide +kernel, rfl, ⟨by decide +kernel, by decide +kernel, by decide +kernel⟩, by decide⟩
theorem okM_15 : okM 15 := ⟨WL_of (q := 2) (j := 126) rfl rfl, WL_of (q := 1) (j := 1) rfl rfl, Or.inr (Or.inl ⟨rfl, WL_of (q := 2) (j := 124) rfl rfl, WL_of (q := 2) (j := 125) rfl rfl⟩), by decide +kernel, rfl, ⟨by decide +kernel, by decide +kernel, by decide +kernel⟩, by decide⟩
theorem okM_16 : okM 16 := ⟨WL_of (q := 2) (j := 130) rfl rfl, WL_of (q := 1) (j := 1) rfl rfl, Or.inr (Or.inl ⟨rfl, WL_of (q := 2) (j := 128) rfl rfl, WL_of (q := 2) (j := 129) rfl rfl⟩), by decide +kernel, rfl, ⟨by decide +kernel, by decide +kernel, by decide +kernel⟩, by decide⟩
theorem okM_17 : okM 17 := ⟨WL_of (q := 2) (j := 134) rfl rfl, WL_of (q := 1) (j := 2) rfl rfl, Or.inr (Or.inl ⟨rfl, WL_of (q := 2) (j := 132) rfl rfl, WL_of (q := 2) (j := 133) rfl rfl⟩), by decide +kernel, rfl, ⟨by decide +kernel, by decide +kernel, by decide +kernel⟩, by decide⟩
theorem okM_18 : okM 18 := ⟨WL_of (q := 2) (j := 141) rfl rfl, WL_of (q := 1) (j := 3) rfl rfl, Or.inr (Or.inl ⟨rfl, WL_of (q := 2) (j := 139) rfl rfl, WL_of (q := 2) (j := 140) rfl rfl⟩), by decide +kernel, rfl, ⟨by decide +kernel, by decide +kernel, by decide +kernel⟩, by decide⟩
theorem okM_19 : okM 19 := ⟨WL_of (q := 2) (j := 145) rfl rfl, WL_of (q := 1) (j := 2) rfl rfl, Or.inr (Or.inl ⟨rfl, WL_of (q := 2) (j := 144) rfl rfl, WL_of (q := 0) (j := 1) rfl rfl⟩), by decide +kernel, rfl, ⟨by decide +kernel, by decide +kernel, by decide +kernel⟩, by decide⟩
theorem okM_20 : okM 20 := ⟨WL_of (q := 2) (j := 149) rfl rfl, WL_of (q := 1) (j := 2) rfl rfl, Or.inr (Or.inl ⟨rfl, WL_of (q := 2) (j := 148) rfl rfl, WL_of (q := 0) (j := 2) rfl rfl⟩), by decide +kernel, rfl, ⟨by decide +kernel, by decide +kernel, by decide +kernel⟩, by decide⟩
theorem okM_21 : okM 21 := ⟨WL_of (q := 2) (j := 153) rfl rfl, WL_of (q := 1) (j := 2) rfl rfl, Or.inr (Or.inl ⟨rfl, WL_of (q := 2) (j := 152) rfl rfl, WL_of (q := 0) (j := 3) rfl rfl⟩), by decide +kernel, rfl, ⟨by decide +kernel, by decide +kernel, by decide +kernel⟩, by decide⟩
theorem okM_22 : okM 22 := ⟨WL_of (q := 2) (j := 157) rfl rfl, WL_of (q := 1) (j := 2) rfl rfl, Or.inr (Or.inl ⟨rfl, WL_of (q := 2) (j := 156) rfl rfl, WL_of (q := 0) (j := 4) rfl rfl⟩), by decide +kernel, rfl, ⟨by decide +kernel, by decide +kernel, by decide +kernel⟩, by decide⟩
theorem okM_23 : okM 23 := ⟨WL_of (q := 2) (j := 161) rfl rfl, WL_of (q := 1) (j := 2) rfl rfl, Or.inr (Or.inl ⟨rfl, WL_of (q := 2) (j := 160) rfl rfl, WL_of (q := 0) (j := 5) rfl rfl⟩), by decide +kernel, rfl, ⟨by decide +kernel, by decide +kernel, by decide +kernel⟩, by decide⟩
theorem okM_24 : okM 24 := ⟨WL_of (q := 2) (j := 165) rfl rfl, WL_of (q := 1) (j := 3) rfl rfl, Or.inr (Or.inl ⟨rfl, WL_of (q := 2) (j := 163) rfl rfl, WL_of (q := 2) (j := 164) rfl rfl⟩), by decide +kernel, rfl, ⟨by decide +kernel, by decide +kernel, by decide +kernel⟩, by decide⟩
theorem okM_25 : okM 25 := ⟨WL_of (q := 2) (j := 169) rfl rfl, WL_of (q := 1) (j := 2) rfl rfl, Or.inr (Or.inl ⟨rfl, WL_of (q := 2) (j := 168) rfl rfl, WL_of (q := 0) (j := 6) rfl rfl⟩), by decide +kernel, rfl, ⟨by decide +kernel, by decide +kernel, by decide +kernel⟩, by decide⟩
theorem okM_26 : okM 26 := ⟨WL_of (q := 2) (j := 175) rfl rfl, WL_of (q := 1) (j := 2) rfl rfl, Or.inr (Or.inl ⟨rfl, WL_of (q := 2) (j := 174) rfl rfl, WL_of (q := 0) (j := 7) rfl rfl⟩), by decide +kernel, rfl, ⟨by decide +kernel, by decide +kernel, by decide +kernel⟩, by decide⟩
theorem okM_27 : okM 27 := ⟨WL_of (q := 2) (j := 179) rfl rfl, WL_of (q := 1) (j := 3) rfl rfl, Or.inr (Or.inl ⟨rfl, WL_of (q := 2) (j := 177) rfl rfl, WL_of (q := 2) (j := 178) rfl rfl⟩), by decide +kernel, rfl, ⟨by decide +kernel, by decide +kernel, by decide +kernel⟩, by decide⟩
theorem okM_28 : okM 28 := ⟨WL_of (q := 2) (j := 183) rfl rfl, WL_of (q := 1) (j := 2) rfl rfl, Or.inr (Or.inl ⟨rfl, WL_of (q := 2) (j := 182) rfl rfl, WL_of (q := 0) (j := 8) rfl rfl⟩), by decide +kernel, rfl, ⟨by decide +kernel, by decide +kernel, by decide +kernel⟩, by decide⟩
theorem okM_29 : okM 29 := ⟨WL_of (q := 2) (j := 193) rfl rfl, WL_of (q := 1) (j := 3) rfl rfl, Or.inr (Or.inl ⟨rfl, WL_of (q := 2) (j := 191) rfl rfl, WL_of (q := 2) (j := 192) rfl rfl⟩), by decide +kernel, rfl, ⟨by decide +kernel, by decide +kernel, by decide +kernel⟩, by decide⟩
theorem okM_30 : okM 30 := ⟨WL_of (q := 2) (j := 197) rfl rfl, WL_of (q := 1) (j := 2) rfl rfl, Or.inr (Or.inl ⟨rfl, WL_of (q := 2) (j := 196) rfl rfl, WL_of (q := 0) (j := 9) rfl rfl⟩), by decide +kernel, rfl, ⟨by decide +kernel, by decide +kernel, by decide +kernel⟩, by decide⟩
theorem okM_31 : okM 31 := ⟨WL_of (q := 2) (j := 201) rfl rfl, WL_of (q := 1) (j := 3) rfl rfl, Or.inr (Or.inl ⟨rfl, WL_of (q := 2) (j := 199) rfl rfl, WL_of (q := 2) (j := 200) rfl rfl⟩), by decide +kernel, rfl, ⟨by decide +kernel, by decide +kernel, by decide +kernel⟩, by decide⟩
theorem okM_32 : okM 32 := ⟨WL_of (q := 2) (j := 206) rfl rfl, WL_of (q := 1) (j := 3) rfl rfl, Or.inr (Or.inl ⟨rfl, WL_of (q := 2) (j := 204) rfl rfl, WL_of (q := 2) (j := 205) rfl rfl⟩), by decide +kernel, rfl, ⟨by decide +kernel, by decide +kernel, by decide +kernel⟩, by decide⟩
theorem okM_33 : okM 33 := ⟨WL_of (q := 2) (j := 210) rfl rfl, WL_of (q := 1) (j := 2) rfl rfl, Or.inr (Or.inl ⟨rfl, WL_of (q := 2) (j := 209) rfl rfl, WL_of (q := 0) (j := 10) rfl rfl⟩), by decide +kernel, rfl, ⟨by decide +kernel, by decide +kernel, by decide +kernel⟩, by decide⟩
theorem okM_34 : okM 34 := ⟨WL_of (q := 2) (j := 214) rfl rfl, WL_of (q := 1) (j := 3) rfl rfl, Or.inr (Or.inl ⟨rfl, WL_of (q := 2) (j := 212) rfl rfl, WL_of (q := 2) (j := 213) rfl rfl⟩), by decide +kernel, rfl, ⟨by decide +kernel, by decide +kernel, by decide +kernel⟩, by decide⟩
theorem okM_35 : okM 35 := ⟨WL_of (q := 2) (j := 218) rfl rfl, WL_of (q := 1) (j := 2) rfl rfl, Or.inr (Or.inl ⟨rfl, WL_of (q := 2) (j := 217) rfl rfl, WL_of (q := 0) (j := 11) rfl rfl⟩), by decide +kernel, rfl, ⟨by decide +kernel, by decide +kernel, by decide +kernel⟩, by decide⟩
theorem okM_36 : okM 36 := ⟨WL_of (q := 2) (j := 222) rfl rfl, WL_of (q := 1) (j := 3) rfl rfl, Or.inr (Or.inl ⟨rfl, WL_of (q := 2) (j := 220) rfl rfl, WL_of (q := 2) (j := 221) rfl rfl⟩), by decide +kernel, rfl, ⟨by decide +kernel, by decide +kernel, by decide +kernel⟩, by decide⟩
theorem okM_37 : okM 37 := ⟨WL_of (q := 2) (j := 226) rfl rfl, WL_of (q := 1) (j := 3) rfl rfl, Or.inr (Or.inl ⟨rfl, WL_of (q := 2) (j := 224) rfl rfl, WL_of (q := 2) (j := 225) rfl rfl⟩), by decide +kernel, rfl, ⟨by decide +kernel, by decide +kernel, by decide +kernel⟩, by decide⟩
theorem okM_38 : okM 38 := ⟨WL_of (q := 2) (j := 231) rfl rfl, WL_of (q := 1) (j := 3) rfl rfl, Or.inr (Or.inl ⟨rfl, WL_of (q := 2) (j := 229) rfl rfl, WL_of (q := 2) (j := 230) rfl rfl⟩), by decide +kernel, rfl, ⟨by decide +kernel, by decide +kernel, by decide +kernel⟩, by decide⟩
theorem okM_39 : okM 39 := ⟨WL_of (q := 2) (j := 235) rfl rfl, WL_of (q := 1) (j := 2) rfl rfl, Or.inr (Or.inl ⟨rfl, WL_of (q := 2) (j := 234) rfl rfl, WL_of (q := 0) (j := 12) rfl rfl⟩), by decide +kernel, rfl, ⟨by decide +kernel, by decide +kernel, by decide +kernel⟩, by decide⟩
theorem okM_40 : okM 40 := ⟨WL_of (q := 2) (j := 239) rfl rfl, WL_of (q := 1) (j := 2) rfl rfl, Or.inr (Or.inl ⟨rfl, WL_of (q := 2) (j := 238) rfl rfl, WL_of (q := 0) (j := 13) rfl rfl⟩), by decide +kernel, rfl, ⟨by decide +kernel, by decide +kernel, by decide +kernel⟩, by decide⟩
theorem okM_41 : okM 41 := ⟨WL_of (q := 3) (j := 3) rfl rfl, WL_of (q := 1) (j := 2) rfl rfl, Or.inr (Or.inl ⟨rfl, WL_of (q := 3) (j := 2) rfl rfl, WL_of (q := 0) (j := 14) rfl rfl⟩), by decide +kernel, rfl, ⟨by decide +kernel, by decide +kernel, by decide +kernel⟩, by decide⟩
theorem okM_42 : okM 42 := ⟨WL_of (q := 3) (j := 7) rfl rfl, WL_of (q := 1) (j := 1) rfl rfl, Or.inr (Or.inl ⟨rfl, WL_of (q := 3) (j := 5) rfl rfl, WL_of (q := 3) (j := 6) rfl rfl⟩), by decide +kernel, rfl, ⟨by decide +kernel, by decide +kernel, by decide +kernel⟩, by decide⟩
theorem okM_43 : okM 43 := ⟨WL_of (q := 3) (j := 11) rfl rfl, WL_of (q := 1) (j := 3) rfl rfl, Or.inr (Or.inl ⟨rfl, WL_of (q := 3) (j := 9) rfl rfl, WL_of (q := 3) (j := 10) rfl rfl⟩), by decide +kernel, rfl, ⟨by decide +kernel, by decide +kernel, by decide +kernel⟩, by decide⟩
theorem okM_44 : okM 44 := ⟨WL_of (q := 3) (j := 16) rfl rfl, WL_of (q := 1) (j := 4) rfl rfl, Or.inr (Or.inl ⟨rfl, WL_of (q := 3) (j := 14) rfl rfl, WL_of (q := 3) (j := 15) rfl rfl⟩), by decide +kernel, rfl, ⟨by decide +kernel, by decide +kernel, by decide +kernel⟩, by decide⟩
theorem okM_45 : okM 45 := ⟨WL_of (q := 3) (j := 20) rfl rfl, WL_of (q := 1) (j := 5) rfl rfl, Or.inr (Or.inl ⟨rfl, WL_of (q := 3) (j := 18) rfl rfl, WL_of (q := 3) (j := 19) rfl rfl⟩), by decide +kernel, rfl, ⟨by decide +kernel, by decide +kernel, by decide +kernel⟩, by decide⟩
theorem okM_46 : okM 46 := ⟨WL_of (q := 3) (j := 24) rfl rfl, WL_of (q := 1) (j := 5) rfl rfl, Or.inl ⟨rfl, WL_of (q := 3) (j := 23) rfl rfl⟩, by decide +kernel, rfl, ⟨by decide +kernel, by decide +kernel, by decide +kernel⟩, by decide⟩
theorem okM_47 : okM 47 := ⟨WL_of (q := 3) (j := 33) rfl rfl, WL_of (q := 1) (j := 3) rfl rfl, Or.inr (Or.inl ⟨rfl, WL_of (q := 3) (j := 31) rfl rfl, WL_of (q := 3) (j := 32) rfl rfl⟩), by decide +kernel, rfl, ⟨by decide +kernel, by decide +kernel, by decide +kernel⟩, by decide⟩
theorem okM_48 : okM 48 := ⟨WL_of (q := 3) (j := 37) rfl rfl, WL_of (q := 1) (j := 3) rfl rfl, Or.inr (Or.inl ⟨rfl, WL_of (q := 3) (j := 35) rfl rfl, WL_of (q := 3) (j := 36) rfl rfl⟩), by decide +kernel, rfl, ⟨by decide +kernel, by decide +kernel, by decide +kernel⟩, by decide⟩
theorem okM_49 : okM 49 := ⟨WL_of (q := 3) (j := 41) rfl rfl, WL_of (q := 1) (j := 3) rfl rfl, Or.inr (Or.inl ⟨rfl, WL_of (q := 3) (j := 39) rfl rfl, WL_of (q := 3) (j := 40) rfl rfl⟩), by decide +kernel, rfl, ⟨by decide +kernel, by decide +kernel, by decide +kernel⟩, by decide⟩
theorem okM_50 : okM 50 := ⟨WL_of (q := 3) (j := 45) rfl rfl, WL_of (q := 1) (j := 3) rfl rfl, Or.inr (Or.inl ⟨rfl, WL_of (q := 3) (j := 43) rfl rfl, WL_of (q := 3) (j := 44) rfl rfl⟩), by decide +kernel, rfl, ⟨by decide +kernel, by decide +kernel, by decide +kernel⟩, by decide⟩
theorem okM_51 : okM 51 := ⟨WL_of (q := 3) (j := 49) rfl rfl, WL_of (q := 1) (j := 9) rfl rfl, Or.inr (Or.inl ⟨rfl, WL_of (q := 3) (j := 47) rfl rfl, WL_of (q := 3) (j := 48) rfl rfl⟩), by decide +kernel, rfl, ⟨by decide +kernel, by decide +kernel, by decide +kernel⟩, by decide⟩
theorem okM_52 : okM 52 := ⟨WL_of (q := 3) (j := 53) rfl rfl, WL_of (q := 1) (j := 1) rfl rfl, Or.inr (Or.inl ⟨rfl, WL_of (q := 3) (j := 51) rfl rfl, WL_of (q := 3) (j := 52) rfl rfl⟩), by decide +kernel, rfl, ⟨by decide +kernel, by decide +kernel, by decide +kernel⟩, by decide⟩
theorem okM_53 : okM 53 := ⟨WL_of (q := 3) (j := 57) rfl rfl, WL_of (q := 1) (j := 3) rfl rfl, Or.inr (Or.inl ⟨rfl, WL_of (q := 3) (j := 55) rfl rfl, WL_of (q := 3) (j := 56) rfl rfl⟩), by decide +kernel, rfl, ⟨by decide +kernel, by decide +kernel, by decide +kernel⟩, by decide⟩
theorem okM_54 : okM 54 := ⟨WL_of (q := 3) (j := 60) rfl rfl, WL_of (q := 1) (j := 18) rfl rfl, Or.inl ⟨rfl, WL_of (q := 3) (j := 59) rfl rfl⟩, by decide +kernel, rfl, ⟨by decide +kernel, by decide +kernel, by decide +kernel⟩, by decide⟩
theorem okM_55 : okM 55 := ⟨WL_of (q := 3) (j := 63) rfl rfl, WL_of (q := 1) (j := 18) rfl rfl, Or.inl ⟨rfl, WL_of (q := 3) (j := 62) rfl rfl⟩, by decide +kernel, rfl, ⟨by decide +kernel, by decide +kernel, by decide +kernel⟩, by decide⟩
theorem okM_56 : okM 56 := ⟨WL_of (q := 3) (j := 67) rfl rfl, WL_of (q := 1) (j := 3) rfl rfl, Or.inr (Or.inl ⟨rfl, WL_of (q := 3) (j := 65) rfl rfl, WL_of (q := 3) (j := 66) rfl rfl⟩), by decide +kernel, rfl, ⟨by decide +kernel, by decide +kernel, by decide +kernel⟩, by decide⟩
theorem okM_57 : okM 57 := ⟨WL_of (q := 3) (j := 70) rfl rfl, WL_of (q := 1) (j := 18) rfl rfl, Or.inl ⟨rfl, WL_of (q := 3) (j := 69) rfl rfl⟩, by decide +kernel, rfl, ⟨by decide +kernel, by decide +kernel, by decide +kernel⟩, by decide⟩
theorem okM_58 : okM 58 := ⟨WL_of (q := 3) (j := 74) rfl rfl, WL_of (q := 1) (j := 3) rfl rfl, Or.inr (Or.inl ⟨rfl, WL_of (q := 3) (j := 72) rfl rfl, WL_of (q := 3) (j := 73) rfl rfl⟩), by decide +kernel, rfl, ⟨by decide +kernel, by decide +kernel, by decide +kernel⟩, by decide⟩
theorem okM_59 : okM 59 := ⟨WL_of (q := 3) (j := 78) rfl rfl, WL_of (q := 1) (j := 1) rfl rfl, Or.inr (Or.inl ⟨rfl, WL_of (q := 3) (j := 76) rfl rfl, WL_of (q := 3) (j := 77) rfl rfl⟩), by decide +kernel, rfl, ⟨by decide +kernel, by decide +kernel, by decide +kernel⟩, by decide⟩
theorem okM_60 : okM 60 := ⟨WL_of (q := 3) (j := 83) rfl rfl, WL_of (q := 1) (j := 3) rfl rfl, Or.inr (Or.inl ⟨rfl, WL_of (q := 3) (j := 81) rfl rfl, WL_of (q := 3) (j := 82) rfl rfl⟩), by decide +kernel, rfl, ⟨by decide +kernel, by decide +kernel, by decide +kernel⟩, by decide⟩
theorem okM_61 : okM 61 := ⟨WL_of (q := 3) (j := 88) rfl rfl, WL_of (q := 1) (j := 3) rfl rfl, Or.inr (Or.inl ⟨rfl, WL_of (q := 3) (j := 86) rfl rfl, WL_of (q := 3) (j := 87) rfl rfl⟩), by decide +kernel, rfl, ⟨by decide +kernel, by decide +kernel, by decide +kernel⟩, by decide⟩
theorem okM_62 : okM 62 := ⟨WL_of (q := 3) (j := 92) rfl rfl, WL_of (q := 1) (j := 1) rfl rfl, Or.inr (Or.inl ⟨rfl, WL_of (q := 3) (j := 90) rfl rfl, WL_of (q := 3) (j := 91) rfl rfl⟩), by decide +kernel, rfl, ⟨by decide +kernel, by decide +kernel, by decide +kernel⟩, by decide⟩
theorem okM_63 : okM 63 := ⟨WL_of (q := 3) (j := 95) rfl rfl, WL_of (q := 1) (j := 18) rfl rfl, Or.inl ⟨rfl, WL_of (q := 3) (j := 94) rfl rfl⟩, by decide +kernel, rfl, ⟨by decide +kernel, by decide +kernel, by decide +kernel⟩, by decide⟩
theorem okM_64 : okM 64 := ⟨WL_of (q := 3) (j := 99) rfl rfl, WL_of (q := 1) (j := 3) rfl rfl, Or.inr (Or.inl ⟨rfl, WL_of (q := 3) (j := 97) rfl rfl, WL_of (q := 3) (j := 98) rfl rfl⟩), by decide +kernel, rfl, ⟨by decide +kernel, by decide +kernel, by decide +kernel⟩, by decide⟩
theorem okM_65 : okM 65 := ⟨WL_of (q := 3) (j := 104) rfl rfl, WL_of (q := 1) (j := 3) rfl rfl, Or.inr (Or.inl ⟨rfl, WL_of (q := 3) (j := 102) rfl rfl, WL_of (q := 3) (j := 103) rfl rfl⟩), by decide +kernel, rfl, ⟨by decide +kernel, by decide +kernel, by decide +kernel⟩, by decide⟩
theorem okM_66 : okM 66 := ⟨WL_of (q := 3) (j := 109) rfl rfl, WL_of (q := 1) (j := 1) rfl rfl, Or.inr (Or.inl ⟨rfl, WL_of (q := 3) (j := 107) rfl rfl, WL_of (q := 3) (j := 108) rfl rfl⟩), by decide +kernel, rfl, ⟨by decide +kernel, by decide +kernel, by decide +kernel⟩, by decide⟩
theorem okM_67 : okM 67 := ⟨WL_of (q := 3) (j := 113) rfl rfl, WL_of (q := 1) (j := 3) rfl rfl, Or.inr (Or.inl ⟨rfl, WL_of (q := 3) (j := 111) rfl rfl, WL_of (q := 3) (j := 112) rfl rfl⟩), by decide +kernel, rfl, ⟨by decide +kernel, by decide +kernel, by decide +kernel⟩, by decide⟩
theorem okM_68 : okM 68 := ⟨WL_of (q := 3) (j := 116) rfl rfl, WL_of (q := 1) (j := 18) rfl rfl, Or.inl ⟨rfl, WL_of (q := 3) (j := 115) rfl rfl⟩, by decide +kernel, rfl, ⟨by decide +kernel, by decide +kernel, by decide +kernel⟩, by decide⟩
theorem okM_69 : okM 69 := ⟨WL_of (q := 3) (j := 119) rfl rfl, WL_of (q := 1) (j := 18) rfl rfl, Or.inl ⟨rfl, WL_of (q := 3) (j := 118) rfl rfl⟩, by decide +kernel, rfl, ⟨by decide +kernel, by decide +kernel, by decide +kernel⟩, by decide⟩
theorem okM_70 : okM 70 := ⟨WL_of (q := 3) (j := 125) rfl rfl, WL_of (q := 1) (j := 18) rfl rfl, Or.inl ⟨rfl, WL_of (q := 3) (j := 124) rfl rfl⟩, by decide +kernel, rfl, ⟨by decide +kernel, by decide +kernel, by decide +kernel⟩, by decide⟩
theorem okM_71 : okM 71 := ⟨WL_of (q := 3) (j := 128) rfl rfl, WL_of (q := 1) (j := 18) rfl rfl, Or.inl ⟨rfl, WL_of (q := 3) (j := 127) rfl rfl⟩, by decide +kernel, rfl, ⟨by decide +kernel, by decide +kernel, by decide +kernel⟩, by decide⟩
theorem okM_72 : okM 72 := ⟨WL_of (q := 3) (j := 132) rfl rfl, WL_of (q := 1) (j := 1) rfl rfl, Or.inr (Or.inl ⟨rfl, WL_of (q := 3) (j := 130) rfl rfl, WL_of (q := 3) (j := 131) rfl rfl⟩), by decide +kernel, rfl, ⟨by decide +kernel, by decide +kernel, by decide +kernel⟩, by decide⟩
theorem okM_73 : okM 73 := ⟨WL_of (q := 3) (j := 136) rfl rfl, WL_of (q := 1) (j := 1) rfl rfl, Or.inr (Or.inl ⟨rfl, WL_of (q := 3) (j := 135) rfl rfl, WL_of (q := 0) (j := 15) rfl rfl⟩), by decide +kernel, rfl, ⟨by decide +kernel, by decide +kernel, by decide +kernel⟩, by decide⟩
theorem okM_74 : okM 74 := ⟨WL_of (q := 3) (j := 139) rfl rfl, WL_of (q := 1) (j := 1) rfl rfl, Or.inl ⟨rfl, WL_of (q := 3) (j := 138) rfl rfl⟩, by decide +kernel, rfl, ⟨by decide +kernel, by decide +kernel, by decide +kernel⟩, by decide⟩
theorem okM_75 : okM 75 := ⟨WL_of (q := 3) (j := 143) rfl rfl, WL_of (q := 1) (j := 1) rfl rfl, Or.inr (Or.inl ⟨rfl, WL_of (q := 3) (j := 142) rfl rfl, WL_of (q := 0) (j := 16) rfl rfl⟩), by decide +kernel, rfl, ⟨by decide +kernel, by decide +kernel, by decide +kernel⟩, by decide⟩
theorem okM_76 : okM 76 := ⟨WL_of (q := 3) (j := 148) rfl rfl, WL_of (q := 1) (j := 4) rfl rfl, Or.inr (Or.inl ⟨rfl, WL_of (q := 3) (j := 146) rfl rfl, WL_of (q := 3) (j := 147) rfl rfl⟩), by decide +kernel, rfl, ⟨by decide +kernel, by decide +kernel, by decide +kernel⟩, by decide⟩
theorem okM_77 : okM 77 := ⟨WL_of (q := 3) (j := 152) rfl rfl, WL_of (q := 1) (j := 5) rfl rfl, Or.inr (Or.inl ⟨rfl, WL_of (q := 3) (j := 150) rfl rfl, WL_of (q := 3) (j := 151) rfl rfl⟩), by decide +kernel, rfl, ⟨by decide +kernel, by decide +kernel, by decide +kernel⟩, by decide⟩
theorem okM_78 : okM 78 := ⟨WL_of (q := 3) (j := 157) rfl rfl, WL_of (q := 1) (j := 9) rfl rfl, Or.inr (Or.inl ⟨rfl, WL_of (q := 3) (j := 155) rfl rfl, WL_of (q := 3) (j := 156) rfl rfl⟩), by decide +kernel, rfl, ⟨by decide +kernel, by decide +kernel, by decide +kernel⟩, by decide⟩
theorem okM_79 : okM 79 := ⟨WL_of (q := 3) (j := 163) rfl rfl, WL_of (q := 1) (j := 6) rfl rfl, Or.inl ⟨rfl, WL_of (q := 3) (j := 162) rfl rfl⟩, by decide +kernel, rfl, ⟨by decide +kernel, by decide +kernel, by decide +kernel⟩, by decide⟩
theorem okM_80 : okM 80 := ⟨WL_of (q := 3) (j := 167) rfl rfl, WL_of (q := 1) (j := 8) rfl rfl, Or.inr (Or.inl ⟨rfl, WL_of (q := 3) (j := 165) rfl rfl, WL_of (q := 3) (j := 166) rfl rfl⟩), by decide +kernel, rfl, ⟨by decide +kernel, by decide +kernel, by decide +kernel⟩, by decide⟩
theorem okM_81 : okM 81 := ⟨WL_of (q := 3) (j := 171) rfl rfl, WL_of (q := 1) (j := 5) rfl rfl, Or.inr (Or.inl ⟨rfl, WL_of (q := 3) (j := 169) rfl rfl, WL_of (q := 3) (j := 170) rfl rfl⟩), by decide +kernel, rfl, ⟨by decide +kernel, by decide +kernel, by decide +kernel⟩, by decide⟩
theorem okM_82 : okM 82 := ⟨WL_of (q := 3) (j := 175) rfl rfl, WL_of (q := 1) (j := 5) rfl rfl, Or.inr (Or.inl ⟨rfl, WL_of (q := 3) (j := 174) rfl rfl, WL_of (q := 0) (j := 17) rfl rfl⟩), by decide +kernel, rfl, ⟨by decide +kernel, by decide +kernel, by decide +kernel⟩, by decide⟩
theorem okM_83 : okM 83 := ⟨WL_of (q := 3) (j := 179) rfl rfl, WL_of (q := 1) (j := 5) rfl rfl, Or.inr (Or.inl ⟨rfl, WL_of (q := 3) (j := 177) rfl rfl, WL_of (q := 3) (j := 178) rfl rfl⟩), by decide +kernel, rfl, ⟨by decide +kernel, by decide +kernel, by decide +kernel⟩, by decide⟩
theorem okM_84 : okM 84 := ⟨WL_of (q := 3) (j := 184) rfl rfl, WL_of (q := 1) (j := 9) rfl rfl, Or.inr (Or.inl ⟨rfl, WL_of (q := 3) (j := 182) rfl rfl, WL_of (q := 3) (j := 183) rfl rfl⟩), by decide +kernel, rfl, ⟨by decide +kernel, by decide +kernel, by decide +kernel⟩, by decide⟩
theorem okM_85 : okM 85 := ⟨WL_of (q := 3) (j := 189) rfl rfl, WL_of (q := 1) (j := 8) rfl rfl, Or.inr (Or.inl ⟨rfl, WL_of (q := 3) (j := 188) rfl rfl, WL_of (q := 0) (j := 18) rfl rfl⟩), by decide +kernel, rfl, ⟨by decide +kernel, by decide +kernel, by decide +kernel⟩, by decide⟩
theorem okM_86 : okM 86 := ⟨WL_of (q := 3) (j := 192) rfl rfl, WL_of (q := 1) (j := 18) rfl rfl, Or.inl ⟨rfl, WL_of (q := 3) (j := 191) rfl rfl⟩, by decide +kernel, rfl, ⟨by decide +kernel, by decide +kernel, by decide +kernel⟩, by decide⟩
theorem okM_87 : okM 87 := ⟨WL_of (q := 3) (j := 196) rfl rfl, WL_of (q := 1) (j := 8) rfl rfl, Or.inr (Or.inl ⟨rfl, WL_of (q := 3) (j := 195) rfl rfl, WL_of (q := 0) (j := 19) rfl rfl⟩), by decide +kernel, rfl, ⟨by decide +kernel, by decide +kernel, by decide +kernel⟩, by decide⟩
theorem okM_88 : okM 88 := ⟨WL_of (q := 3) (j := 207) rfl rfl, WL_of (q := 1) (j := 8) rfl rfl, Or.inr (Or.inl ⟨rfl, WL_of (q := 3) (j := 206) rfl rfl, WL_of (q := 0) (j := 20) rfl rfl⟩), by decide +kernel, rfl, ⟨by decide +kernel, by decide +kernel, by decide +kernel⟩, by decide⟩
theorem okM_89 : okM 89 := ⟨WL_of (q := 3) (j := 212) rfl rfl, WL_of (q := 1) (j := 8) rfl rfl, Or.inr (Or.inl ⟨rfl, WL_of (q := 3) (j := 211) rfl rfl, WL_of (q := 0) (j := 21) rfl rfl⟩), by decide +kernel, rfl, ⟨by decide +kernel, by decide +kernel, by decide +kernel⟩, by decide⟩
theorem okM_90 : okM 90 := ⟨WL_of (q := 3) (j := 215) rfl rfl, WL_of (q := 1) (j := 19) rfl rfl, Or.inl ⟨rfl, WL_of (q := 3) (j := 214) rfl rfl⟩, by decide +kernel, rfl, ⟨by decide +kernel, by decide +kernel, by decide +kernel⟩, by decide⟩
theorem okM_91 : okM 91 := ⟨WL_of (q := 3) (j := 219) rfl rfl, WL_of (q := 1) (j := 20) rfl rfl, Or.inl ⟨rfl, WL_of (q := 3) (j := 218) rfl rfl⟩, by decide +kernel, rfl, ⟨by decide +kernel, by decide +kernel, by decide +kernel⟩, by decide⟩
theorem okM_92 : okM 92 := ⟨WL_of (q := 3) (j := 228) rfl rfl, WL_of (q := 1) (j := 19) rfl rfl, Or.inl ⟨rfl, WL_of (q := 3) (j := 227) rfl rfl⟩, by decide +kernel, rfl, ⟨by decide +kernel, by decide +kernel, by decide +kernel⟩, by decide⟩
theorem okM_93 : okM 93 := ⟨WL_of (q := 3) (j := 231) rfl rfl, WL_of (q := 1) (j := 19) rfl rfl, Or.inl ⟨rfl, WL_of (q := 3) (j := 230) rfl rfl⟩, by decide +kernel, rfl, ⟨by decide +kernel, by decide +kernel, by decide +kernel⟩, by decide⟩
theorem okM_94 : okM 94 := ⟨WL_of (q := 3) (j := 238) rfl rfl, WL_of (q := 1) (j := 19) rfl rfl, Or.inl ⟨rfl, WL_of (q := 3) (j := 237) rfl rfl⟩, by decide +kernel, rfl, ⟨by decide +kernel, by decide +kernel, by decide +kernel⟩, by decide⟩
theorem okM_95 : okM 95 := ⟨WL_of (q := 4) (j := 2) rfl rfl, WL_of (q := 1) (j := 9) rfl rfl, Or.inr (Or.inl ⟨rfl, WL_of (q := 4) (j := 0) rfl rfl, WL_of (q := 4) (j := 1) rfl rfl⟩), by decide +kernel, rfl, ⟨by decide +kernel, by decide +kernel, by decide +kernel⟩, by decide⟩
theorem okM_96 : okM 96 := ⟨WL_of (q := 4) (j := 6) rfl rfl, WL_of (q := 1) (j := 1) rfl rfl, Or.inr (Or.inl ⟨rfl, WL_of (q := 4) (j := 4) rfl rfl, WL_of (q := 4) (j := 5) rfl rfl⟩), by decide +kernel, rfl, ⟨by decide +kernel, by decide +kernel, by decide +kernel⟩, by decide⟩
theorem okM_97 : okM 97 := ⟨WL_of (q := 4) (j := 10) rfl rfl, WL_of (q := 1) (j := 1) rfl rfl, Or.inr (Or.inl ⟨rfl, WL_of (q := 4) (j := 9) rfl rfl, WL_of (q := 0) (j := 22) rfl rfl⟩), by decide +kernel, rfl, ⟨by decide +kernel, by decide +kernel, by decide +kernel⟩, by decide⟩
theorem okM_98 : okM 98 := ⟨WL_of (q := 4) (j := 14) rfl rfl, WL_of (q := 1) (j := 4) rfl rfl, Or.inr (Or.inl ⟨rfl, WL_of (q := 4) (j := 12) rfl rfl, WL_of (q := 4) (j := 13) rfl rfl⟩), by decide +kernel, rfl, ⟨by decide +kernel, by decide +kernel, by decide +kernel⟩, by decide⟩
theorem okM_99 : okM 99 := ⟨WL_of (q := 4) (j := 18) rfl rfl, WL_of (q := 1) (j := 5) rfl rfl, Or.inr (Or.inl ⟨rfl, WL_of (q := 4) (j := 16) rfl rfl, WL_of (q := 4) (j := 17) rfl rfl⟩), by decide +kernel, rfl, ⟨by decide +kernel, by decide +kernel, by decide +kernel⟩, by decide⟩
theorem okM_100 : okM 100 := ⟨WL_of (q := 4) (j := 24) rfl rfl, WL_of (q := 1) (j := 10) rfl rfl, Or.inr (Or.inl ⟨rfl, WL_of (q := 4) (j := 22) rfl rfl, WL_of (q := 4) (j := 23) rfl rfl⟩), by decide +kernel, rfl, ⟨by decide +kernel, by decide +kernel, by decide +kernel⟩, by decide⟩
theorem okM_101 : okM 101 := ⟨WL_of (q := 4) (j := 28) rfl rfl, WL_of (q := 1) (j := 10) rfl rfl, Or.inr (Or.inl ⟨rfl, WL_of (q := 4) (j := 26) rfl rfl, WL_of (q := 4) (j := 27) rfl rfl⟩), by decide +kernel, rfl, ⟨by decide +kernel, by decide +kernel, by decide +kernel⟩, by decide⟩
theorem okM_102 : okM 102 := ⟨WL_of (q := 4) (j := 34) rfl rfl, WL_of (q := 1) (j := 5) rfl rfl, Or.inr (Or.inl ⟨rfl, WL_of (q := 4) (j := 32) rfl rfl, WL_of (q := 4) (j := 33) rfl rfl⟩), by decide +kernel, rfl, ⟨by decide +kernel, by decide +kernel, by decide +kernel⟩, by decide⟩
theorem okM_103 : okM 103 := ⟨WL_of (q := 4) (j := 41) rfl rfl, WL_of (q := 1) (j := 10) rfl rfl, Or.inr (Or.inl ⟨rfl, WL_of (q := 4) (j := 40) rfl rfl, WL_of (q := 0) (j := 23) rfl rfl⟩), by decide +kernel, rfl, ⟨by decide +kernel, by decide +kernel, by decide +kernel⟩, by decide⟩
theorem okM_104 : okM 104 := ⟨WL_of (q := 4) (j := 47) rfl rfl, WL_of (q := 1) (j := 10) rfl rfl, Or.inr (Or.inl ⟨rfl, WL_of (q := 4) (j := 46) rfl rfl, WL_of (q := 0) (j := 24) rfl rfl⟩), by decide +kernel, rfl, ⟨by decide +kernel, by decide +kernel, by decide +kernel⟩, by decide⟩
theorem okM_105 : okM 105 := ⟨WL_of (q := 4) (j := 54) rfl rfl, WL_of (q := 1) (j := 10) rfl rfl, Or.inr (Or.inl ⟨rfl, WL_of (q := 4) (j := 52) rfl rfl, WL_of (q := 4) (j := 53) rfl rfl⟩), by decide +kernel, rfl, ⟨by decide +kernel, by decide +kernel, by decide +kernel⟩, by decide⟩
theorem okM_106 : okM 106 := ⟨WL_of (q := 4) (j := 58) rfl rfl, WL_of (q := 1) (j := 10) rfl rfl, Or.inr (Or.inl ⟨rfl, WL_of (q := 4) (j := 57) rfl rfl, WL_of (q := 0) (j := 25) rfl rfl⟩), by decide +kernel, rfl, ⟨by decide +kernel, by decide +kernel, by decide +kernel⟩, by decide⟩
theorem okM_107 : okM 107 := ⟨WL_of (q := 4) (j := 65) rfl rfl, WL_of (q := 1) (j := 10) rfl rfl, Or.inr (Or.inl ⟨rfl, WL_of (q := 4) (j := 64) rfl rfl, WL_of (q := 0) (j := 26) rfl rfl⟩), by decide +kernel, rfl, ⟨by decide +kernel, by decide +kernel, by decide +kernel⟩, by decide⟩
theorem okM_108 : okM 108 := ⟨WL_of (q := 4) (j := 75) rfl rfl, WL_of (q := 1) (j := 1) rfl rfl, Or.inr (Or.inl ⟨rfl, WL_of (q := 4) (j := 74) rfl rfl, WL_of (q := 0) (j := 27) rfl rfl⟩), by decide +kernel, rfl, ⟨by decide +kernel, by decide +kernel, by decide +kernel⟩, by decide⟩
theorem okM_109 : okM 109 := ⟨WL_of (q := 4) (j := 81) rfl rfl, WL_of (q := 1) (j := 1) rfl rfl, Or.inr (Or.inl ⟨rfl, WL_of (q := 4) (j := 79) rfl rfl, WL_of (q := 4) (j := 80) rfl rfl⟩), by decide +kernel, rfl, ⟨by decide +kernel, by decide +kernel, by decide +kernel⟩, by decide⟩
theorem okM_110 : okM 110 := ⟨WL_of (q := 4) (j := 85) rfl rfl, WL_of (q := 1) (j := 10) rfl rfl, Or.inr (Or.inl ⟨rfl, WL_of (q := 4) (j := 83) rfl rfl, WL_of (q := 4) (j := 84) rfl rfl⟩), by decide +kernel, rfl, ⟨by decide +kernel, by decide +kernel, by decide +kernel⟩, by decide⟩
theorem okM_111 : okM 111 := ⟨WL_of (q := 4) (j := 89) rfl rfl, WL_of (q := 1) (j := 1) rfl rfl, Or.inr (Or.inl ⟨rfl, WL_of (q := 4) (j := 87) rfl rfl, WL_of (q := 4) (j := 88) rfl rfl⟩), by decide +kernel, rfl, ⟨by decide +kernel, by decide +kernel, by decide +kernel⟩, by decide⟩
theorem okM_112 : okM 112 := ⟨WL_of (q := 4) (j := 93) rfl rfl, WL_of (q := 1) (j := 10) rfl rfl, Or.inr (Or.inl ⟨rfl, WL_of (q := 4) (j := 91) rfl rfl, WL_of (q := 4) (j := 92) rfl rfl⟩), by decide +kernel, rfl, ⟨by decide +kernel, by decide +kernel, by decide +kernel⟩, by decide⟩
theorem okM_113 : okM 113 := ⟨WL_of (q := 4) (j := 97) rfl rfl, WL_of (q := 1) (j := 1) rfl rfl, Or.inr (Or.inl ⟨rfl, WL_of (q := 4) (j := 95) rfl rfl, WL_of (q := 4) (j := 96) rfl rfl⟩), by decide +kernel, rfl, ⟨by decide +kernel, by decide +kernel, by decide +kernel⟩, by decide⟩
theorem okM_114 : okM 114 := ⟨WL_of (q := 4) (j := 101) rfl rfl, WL_of (q := 1) (j := 7) rfl rfl, Or.inr (Or.inl ⟨rfl, WL_of (q := 4) (j := 99) rfl rfl, WL_of (q := 4) (j := 100) rfl rfl⟩), by decide +kernel, rfl, ⟨by decide +kernel, by decide +kernel, by decide +kernel⟩, by decide⟩
theorem okM_115 : okM 115 := ⟨WL_of (q := 4) (j := 105) rfl rfl, WL_of (q := 1) (j := 7) rfl rfl, Or.inl ⟨rfl, WL_of (q := 4) (j := 104) rfl rfl⟩, by decide +kernel, rfl, ⟨by decide +kernel, by decide +kernel, by decide +kernel⟩, by decide⟩
theorem okM_116 : okM 116 := ⟨WL_of (q := 4) (j := 110) rfl rfl, WL_of (q := 1) (j := 7) rfl rfl, Or.inr (Or.inl ⟨rfl, WL_of (q := 4) (j := 108) rfl rfl, WL_of (q := 4) (j := 109) rfl rfl⟩), by decide +kernel, rfl, ⟨by decide +kernel, by decide +kernel, by decide +kernel⟩, by decide⟩
theorem okM_117 : okM 117 := ⟨WL_of (q := 4) (j := 114) rfl rfl, WL_of (q := 1) (j := 7) rfl rfl, Or.inr (Or.inl ⟨rfl, WL_of (q := 4) (j := 112) rfl rfl, WL_of (q := 4) (j := 113) rfl rfl⟩), by decide +kernel, rfl, ⟨by decide +kernel, by decide +kernel, by decide +kernel⟩, by decide⟩
theorem okM_118 : okM 118 := ⟨WL_of (q := 4) (j := 119) rfl rfl, WL_of (q := 1) (j := 7) rfl rfl, Or.inr (Or.inl ⟨rfl, WL_of (q := 4) (j := 118) rfl rfl, WL_of (q := 0) (j := 28) rfl rfl⟩), by decide +kernel, rfl, ⟨by decide +kernel, by decide +kernel, by decide +kernel⟩, by decide⟩
theorem okM_119 : okM 119 := ⟨WL_of (q := 4) (j := 126) rfl rfl, WL_of (q := 1) (j := 7) rfl rfl, Or.inl ⟨rfl, WL_of (q := 4) (j := 125) rfl rfl⟩, by decide +kernel, rfl, ⟨by decide +kernel, by decide +kernel, by decide +kernel⟩, by decide⟩
theorem okM_120 : okM 120 := ⟨WL_of (q := 4) (j := 131) rfl rfl, WL_of (q := 1) (j := 7) rfl rfl, Or.inr (Or.inl ⟨rfl, WL_of (q := 4) (j := 130) rfl rfl, WL_of (q := 0) (j := 29) rfl rfl⟩), by decide +kernel, rfl, ⟨by decide +kernel, by decide +kernel, by decide +kernel⟩, by decide⟩
theorem okM_121 : okM 121 := ⟨WL_of (q := 4) (j := 137) rfl rfl, WL_of (q := 1) (j := 5) rfl rfl, Or.inr (Or.inl ⟨rfl, WL_of (q := 4) (j := 135) rfl rfl, WL_of (q := 4) (j := 136) rfl rfl⟩), by decide +kernel, rfl, ⟨by decide +kernel, by decide +kernel, by decide +kernel⟩, by decide⟩
theorem okM_122 : okM 122 := ⟨WL_of (q := 4) (j := 144) rfl rfl, WL_of (q := 1) (j := 1) rfl rfl, Or.inr (Or.inl ⟨rfl, WL_of (q := 4) (j := 142) rfl rfl, WL_of (q := 4) (j := 143) rfl rfl⟩), by decide +kernel, rfl, ⟨by decide +kernel, by decide +kernel, by decide +kernel⟩, by decide⟩
theorem okM_123 : okM 123 := ⟨WL_of (q := 4) (j := 148) rfl rfl, WL_of (q := 1) (j := 7) rfl rfl, Or.inr (Or.inl ⟨rfl, WL_of (q := 4) (j := 146) rfl rfl, WL_of (q := 4) (j := 147) rfl rfl⟩), by decide +kernel, rfl, ⟨by decide +kernel, by decide +kernel, by decide +kernel⟩, by decide⟩
theorem okM_124 : okM 124 := ⟨WL_of (q := 4) (j := 152) rfl rfl, WL_of (q := 1) (j := 5) rfl rfl, Or.inr (Or.inl ⟨rfl, WL_of (q := 4) (j := 150) rfl rfl, WL_of (q := 4) (j := 151) rfl rfl⟩), by decide +kernel, rfl, ⟨by decide +kernel, by decide +kernel, by decide +kernel⟩, by decide⟩
theorem okM_125 : okM 125 := ⟨WL_of (q := 4) (j := 160) rfl rfl, WL_of (q := 1) (j := 7) rfl rfl, Or.inr (Or.inl ⟨rfl, WL_of (q := 4) (j := 159) rfl rfl, WL_of (q := 0) (j := 30) rfl rfl⟩), by decide +kernel, rfl, ⟨by decide +kernel, by decide +kernel, by decide +kernel⟩, by decide⟩
theorem okM_126 : okM 126 := ⟨WL_of (q := 4) (j := 165) rfl rfl, WL_of (q := 1) (j := 7) rfl rfl, Or.inr (Or.inl ⟨rfl, WL_of (q := 4) (j := 164) rfl rfl, WL_of (q := 0) (j := 31) rfl rfl⟩), by decide +kernel, rfl, ⟨by decide +kernel, by decide +kernel, by decide +kernel⟩, by decide⟩
theorem okM_127 : okM 127 := ⟨WL_of (q := 4) (j := 171) rfl rfl, WL_of (q := 1) (j := 1) rfl rfl, Or.inr (Or.inl ⟨rfl, WL_of (q := 4) (j := 169) rfl rfl, WL_of (q := 4) (j := 170) rfl rfl⟩), by decide +kernel, rfl, ⟨by decide +kernel, by decide +kernel, by decide +kernel⟩, by decide⟩
theorem okM_128 : okM 128 := ⟨WL_of (q := 4) (j := 175) rfl rfl, WL_of (q := 1) (j := 4) rfl rfl, Or.inr (Or.inl ⟨rfl, WL_of (q := 4) (j := 173) rfl rfl, WL_of (q := 4) (j := 174) rfl rfl⟩), by decide +kernel, rfl, ⟨by decide +kernel, by decide +kernel, by decide +kernel⟩, by decide⟩
theorem okM_129 : okM 129 := ⟨WL_of (q := 4) (j := 180) rfl rfl, WL_of (q := 1) (j := 11) rfl rfl, Or.inr (Or.inl ⟨rfl, WL_of (q := 4) (j := 178) rfl rfl, WL_of (q := 4) (j := 179) rfl rfl⟩), by decide +kernel, rfl, ⟨by decide +kernel, by decide +kernel, by decide +kernel⟩, by decide⟩
theorem okM_130 : okM 130 := ⟨WL_of (q := 4) (j := 184) rfl rfl, WL_of (q := 1) (j := 11) rfl rfl, Or.inr (Or.inl ⟨rfl, WL_of (q := 4) (j := 182) rfl rfl, WL_of (q := 4) (j := 183) rfl rfl⟩), by decide +kernel, rfl, ⟨by decide +kernel, by decide +kernel, by decide +kernel⟩, by decide⟩
theorem okM_131 : okM 131 := ⟨WL_of (q := 4) (j := 195) rfl rfl, WL_of (q := 1) (j := 11) rfl rfl, Or.inr (Or.inl ⟨rfl, WL_of (q := 4) (j := 194) rfl rfl, WL_of (q := 0) (j := 32) rfl rfl⟩), by decide +kernel, rfl, ⟨by decide +kernel, by decide +kernel, by decide +kernel⟩, by decide⟩
theorem okM_132 : okM 132 := ⟨WL_of (q := 4) (j := 201) rfl rfl, WL_of (q := 1) (j := 11) rfl rfl, Or.inr (Or.inl ⟨rfl, WL_of (q := 4) (j := 200) rfl rfl, WL_of (q := 0) (j := 33) rfl rfl⟩), by decide +kernel, rfl, ⟨by decide +kernel, by decide +kernel, by decide +kernel⟩, by decide⟩
theorem okM_133 : okM 133 := ⟨WL_of (q := 4) (j := 212) rfl rfl, WL_of (q := 1) (j := 1) rfl rfl, Or.inr (Or.inl ⟨rfl, WL_of (q := 4) (j := 210) rfl rfl, WL_of (q := 4) (j := 211) rfl rfl⟩), by decide +kernel, rfl, ⟨by decide +kernel, by decide +kernel, by decide +kernel⟩, by decide⟩
theorem okM_134 : okM 134 := ⟨WL_of (q := 4) (j := 216) rfl rfl, WL_of (q := 1) (j := 1) rfl rfl, Or.inr (Or.inl ⟨rfl, WL_of (q := 4) (j := 214) rfl rfl, WL_of (q := 4) (j := 215) rfl rfl⟩), by decide +kernel, rfl, ⟨by decide +kernel, by decide +kernel, by decide +kernel⟩, by decide⟩
theorem okM_135 : okM 135 := ⟨WL_of (q := 4) (j := 220) rfl rfl, WL_of (q := 1) (j := 3) rfl rfl, Or.inr (Or.inl ⟨rfl, WL_of (q := 4) (j := 218) rfl rfl, WL_of (q := 4) (j := 219) rfl rfl⟩), by decide +kernel, rfl, ⟨by decide +kernel, by decide +kernel, by decide +kernel⟩, by decide⟩
theorem okM_136 : okM 136 := ⟨WL_of (q := 4) (j := 226) rfl rfl, WL_of (q := 1) (j := 1) rfl rfl, Or.inr (Or.inl ⟨rfl, WL_of (q := 4) (j := 224) rfl rfl, WL_of (q := 4) (j := 225) rfl rfl⟩), by decide +kernel, rfl, ⟨by decide +kernel, by decide +kernel, by decide +kernel⟩, by decide⟩
theorem okM_137 : okM 137 := ⟨WL_of (q := 4) (j := 231) rfl rfl, WL_of (q := 1) (j := 7) rfl rfl, Or.inr (Or.inl ⟨rfl, WL_of (q := 4) (j := 229) rfl rfl, WL_of (q := 4) (j := 230) rfl rfl⟩), by decide +kernel, rfl, ⟨by decide +kernel, by decide +kernel, by decide +kernel⟩, by decide⟩
theorem okM_138 : okM 138 := ⟨WL_of (q := 4) (j := 236) rfl rfl, WL_of (q := 1) (j := 1) rfl rfl, Or.inr (Or.inl ⟨rfl, WL_of (q := 4) (j := 234) rfl rfl, WL_of (q := 4) (j := 235) rfl rfl⟩), by decide +kernel, rfl, ⟨by decide +kernel, by decide +kernel, by decide +kernel⟩, by decide⟩
theorem okM_139 : okM 139 := ⟨WL_of (q := 5) (j := 1) rfl rfl, WL_of (q := 1) (j := 7) rfl rfl, Or.inr (Or.inl ⟨rfl, WL_of (q := 4) (j := 239) rfl rfl, WL_of (q := 5) (j := 0) rfl rfl⟩), by decide +kernel, rfl, ⟨by decide +kernel, by decide +kernel, by decide +kernel⟩, by decide⟩
theorem okM_140 : okM 140 := ⟨WL_of (q := 5) (j := 5) rfl rfl, WL_of (q := 1) (j := 1) rfl rfl, Or.inr (Or.inl ⟨rfl, WL_of (q := 5) (j := 3) rfl rfl, WL_of (q := 5) (j := 4) rfl rfl⟩), by decide +kernel, rfl, ⟨by decide +kernel, by decide +kernel, by decide +kernel⟩, by decide⟩
theorem okM_141 : okM 141 := ⟨WL_of (q := 5) (j := 9) rfl rfl, WL_of (q := 1) (j := 1) rfl rfl, Or.inr (Or.inl ⟨rfl, WL_of (q := 5) (j := 7) rfl rfl, WL_of (q := 5) (j := 8) rfl rfl⟩), by decide +kernel, rfl, ⟨by decide +kernel, by decide +kernel, by decide +kernel⟩, by decide⟩
theorem okM_142 : okM 142 := ⟨WL_of (q := 5) (j := 13) rfl rfl, WL_of (q := 1) (j := 1) rfl rfl, Or.inr (Or.inl ⟨rfl, WL_of (q := 5) (j := 11) rfl rfl, WL_of (q := 5) (j := 12) rfl rfl⟩), by decide +kernel, rfl, ⟨by decide +kernel, by decide +kernel, by decide +kernel⟩, by decide⟩
theorem okM_143 : okM 143 := ⟨WL_of (q := 5) (j := 20) rfl rfl, WL_of (q := 1) (j := 12) rfl rfl, Or.inr (Or.inr ⟨rfl, WL_of (q := 5) (j := 19) rfl rfl, rfl, rfl⟩), by decide +kernel, rfl, ⟨by decide +kernel, by decide +kernel, by decide +kernel⟩, by decide⟩
theorem okM_144 : okM 144 := ⟨WL_of (q := 5) (j := 170) rfl rfl, WL_of (q := 1) (j := 12) rfl rfl, Or.inr (Or.inl ⟨rfl, WL_of (q := 5) (j := 168) rfl rfl, WL_of (q := 5) (j := 169) rfl rfl⟩), by decide +kernel, rfl, ⟨by decide +kernel, by decide +kernel, by decide +kernel⟩, by decide⟩
theorem okM_145 : okM 145 := ⟨WL_of (q := 5) (j := 174) rfl rfl, WL_of (q := 1) (j := 12) rfl rfl, Or.inr (Or.inl ⟨rfl, WL_of (q := 5) (j := 172) rfl rfl, WL_of (q := 5) (j := 173) rfl rfl⟩), by decide +kernel, rfl, ⟨by decide +kernel, by decide +kernel, by decide +kernel⟩, by decide⟩
theorem okM_146 : okM 146 := ⟨WL_of (q := 5) (j := 177) rfl rfl, WL_of (q := 1) (j := 12) rfl rfl, Or.inl ⟨rfl, WL_of (q := 5) (j := 176) rfl rfl⟩, by decide +kernel, rfl, ⟨by decide +kernel, by decide +kernel, by decide +kernel⟩, by decide⟩
theorem okM_147 : okM 147 := ⟨WL_of (q := 5) (j := 181) rfl rfl, WL_of (q := 1) (j := 12) rfl rfl, Or.inr (Or.inl ⟨rfl, WL_of (q := 5) (j := 179) rfl rfl, WL_of (q := 5) (j := 180) rfl rfl⟩), by decide +kernel, rfl, ⟨by decide +kernel, by decide +kernel, by decide +kernel⟩, by decide⟩
theorem okM_148 : okM 148 := ⟨WL_of (q := 5) (j := 185) rfl rfl, WL_of (q := 1) (j := 12) rfl rfl, Or.inr (Or.inl ⟨rfl, WL_of (q := 5) (j := 184) rfl rfl, WL_of (q := 0) (j := 34) rfl rfl⟩), by decide +kernel, rfl, ⟨by decide +kernel, by decide +kernel, by decide +kernel⟩, by decide⟩
theorem okM_149 : okM 149 := ⟨WL_of (q := 5) (j := 188) rfl rfl, WL_of (q := 1) (j := 12) rfl rfl, Or.inl ⟨rfl, WL_of (q := 5) (j := 187) rfl rfl⟩, by decide +kernel, rfl, ⟨by decide +kernel, by decide +kernel, by decide +kernel⟩, by decide⟩
theorem okM_150 : okM 150 := ⟨WL_of (q := 5) (j := 191) rfl rfl, WL_of (q := 1) (j := 12) rfl rfl, Or.inl ⟨rfl, WL_of (q := 5) (j := 190) rfl rfl⟩, by decide +kernel, rfl, ⟨by decide +kernel, by decide +kernel, by decide +kernel⟩, by decide⟩
theorem okM_151 : okM 151 := ⟨WL_of (q := 5) (j := 198) rfl rfl, WL_of (q := 1) (j := 12) rfl rfl, Or.inr (Or.inl ⟨rfl, WL_of (q := 5) (j := 197) rfl rfl, WL_of (q := 0) (j := 35) rfl rfl⟩), by decide +kernel, rfl, ⟨by decide +kernel, by decide +kernel, by decide +kernel⟩, by decide⟩
theorem okM_152 : okM 152 := ⟨WL_of (q := 5) (j := 203) rfl rfl, WL_of (q := 1) (j := 12) rfl rfl, Or.inr (Or.inl ⟨rfl, WL_of (q := 5) (j := 202) rfl rfl, WL_of (q := 0) (j := 36) rfl rfl⟩), by decide +kernel, rfl, ⟨by decide +kernel, by decide +kernel, by decide +kernel⟩, by decide⟩
theorem okM_153 : okM 153 := ⟨WL_of (q := 5) (j := 206) rfl rfl, WL_of (q := 1) (j := 12) rfl rfl, Or.inl ⟨rfl, WL_of (q := 5) (j := 205) rfl rfl⟩, by decide +kernel, rfl, ⟨by decide +kernel, by decide +kernel, by decide +kernel⟩, by decide⟩
theorem okM_154 : okM 154 := ⟨WL_of (q := 5) (j := 210) rfl rfl, WL_of (q := 1) (j := 14) rfl rfl, Or.inr (Or.inl ⟨rfl, WL_of (q := 5) (j := 208) rfl rfl, WL_of (q := 5) (j := 209) rfl rfl⟩), by decide +kernel, rfl, ⟨by decide +kernel, by decide +kernel, by decide +kernel⟩, by decide⟩
theorem okM_155 : okM 155 := ⟨WL_of (q := 5) (j := 214) rfl rfl, WL_of (q := 1) (j := 14) rfl rfl, Or.inr (Or.inl ⟨rfl, WL_of (q := 5) (j := 212) rfl rfl, WL_of (q := 5) (j := 213) rfl rfl⟩), by decide +kernel, rfl, ⟨by decide +kernel, by decide +kernel, by decide +kernel⟩, by decide⟩
theorem okM_156 : okM 156 := ⟨WL_of (q := 5) (j := 220) rfl rfl, WL_of (q := 1) (j := 14) rfl rfl, Or.inr (Or.inl ⟨rfl, WL_of (q := 5) (j := 218) rfl rfl, WL_of (q := 5) (j := 219) rfl rfl⟩), by decide +kernel, rfl, ⟨by decide +kernel, by decide +kernel, by decide +kernel⟩, by decide⟩
theorem okM_157 : okM 157 := ⟨WL_of (q := 5) (j := 224) rfl rfl, WL_of (q := 1) (j := 14) rfl rfl, Or.inr (Or.inl ⟨rfl, WL_of (q := 5) (j := 222) rfl rfl, WL_of (q := 5) (j := 223) rfl rfl⟩), by decide +kernel, rfl, ⟨by decide +kernel, by decide +kernel, by decide +kernel⟩, by decide⟩
theorem okM_158 : okM 158 := ⟨WL_of (q := 5) (j := 227) rfl rfl, WL_of (q := 1) (j := 15) rfl rfl, Or.inl ⟨rfl, WL_of (q := 5) (j := 226) rfl rfl⟩, by decide +kernel, rfl, ⟨by decide +kernel, by decide +kernel, by decide +kernel⟩, by decide⟩
theorem okM_159 : okM 159 := ⟨WL_of (q := 5) (j := 230) rfl rfl, WL_of (q := 1) (j := 14) rfl rfl, Or.inl ⟨rfl, WL_of (q := 5) (j := 229) rfl rfl⟩, by decide +kernel, rfl, ⟨by decide +kernel, by decide +kernel, by decide +kernel⟩, by decide⟩
theorem okM_160 : okM 160 := ⟨WL_of (q := 5) (j := 235) rfl rfl, WL_of (q := 1) (j := 16) rfl rfl, Or.inl ⟨rfl, WL_of (q := 5) (j := 234) rfl rfl⟩, by decide +kernel, rfl, ⟨by decide +kernel, by decide +kernel, by decide +kernel⟩, by decide⟩
theorem okM_161 : okM 161 := ⟨WL_of (q := 6) (j := 19) rfl rfl, WL_of (q := 1) (j := 12) rfl rfl, Or.inr (Or.inl ⟨rfl, WL_of (q := 6) (j := 18) rfl rfl, WL_of (q := 0) (j := 37) rfl rfl⟩), by decide +kernel, rfl, ⟨by decide +kernel, by decide +kernel, by decide +kernel⟩, by decide⟩
theorem okM_162 : okM 162 := ⟨WL_of (q := 6) (j := 23) rfl rfl, WL_of (q := 1) (j := 12) rfl rfl, Or.inr (Or.inl ⟨rfl, WL_of (q := 6) (j := 22) rfl rfl, WL_of (q := 0) (j := 38) rfl rfl⟩), by decide +kernel, rfl, ⟨by decide +kernel, by decide +kernel, by decide +kernel⟩, by decide⟩
theorem okM_163 : okM 163 := ⟨WL_of (q := 6) (j := 33) rfl rfl, WL_of (q := 1) (j := 12) rfl rfl, Or.inr (Or.inl ⟨rfl, WL_of (q := 6) (j := 32) rfl rfl, WL_of (q := 0) (j := 39) rfl rfl⟩), by decide +kernel, rfl, ⟨by decide +kernel, by decide +kernel, by decide +kernel⟩, by decide⟩
theorem okM_164 : okM 164 := ⟨WL_of (q := 6) (j := 37) rfl rfl, WL_of (q := 1) (j := 12) rfl rfl, Or.inr (Or.inl ⟨rfl, WL_of (q := 6) (j := 36) rfl rfl, WL_of (q := 0) (j := 40) rfl rfl⟩), by decide +kernel, rfl, ⟨by decide +kernel, by decide +kernel, by decide +kernel⟩, by decide⟩
theorem okM_165 : okM 165 := ⟨WL_of (q := 6) (j := 41) rfl rfl, WL_of (q := 1) (j := 12) rfl rfl, Or.inr (Or.inl ⟨rfl, WL_of (q := 6) (j := 40) rfl rfl, WL_of (q := 0) (j := 41) rfl rfl⟩), by decide +kernel, rfl, ⟨by decide +kernel, by decide +kernel, by decide +kernel⟩, by decide⟩
theorem okM_166 : okM 166 := ⟨WL_of (q := 6) (j := 45) rfl rfl, WL_of (q := 1) (j := 12) rfl rfl, Or.inr (Or.inl ⟨rfl, WL_of (q := 6) (j := 44) rfl rfl, WL_of (q := 0) (j := 42) rfl rfl⟩), by decide +kernel, rfl, ⟨by decide +kernel, by decide +kernel, by decide +kernel⟩, by decide⟩
theorem okM_167 : okM 167 := ⟨WL_of (q := 6) (j := 49) rfl rfl, WL_of (q := 1) (j := 12) rfl rfl, Or.inr (Or.inl ⟨rfl, WL_of (q := 6) (j := 48) rfl rfl, WL_of (q := 0) (j := 43) rfl rfl⟩), by decide +kernel, rfl, ⟨by decide +kernel, by decide +kernel, by decide +kernel⟩, by decide⟩
theorem okM_168 : okM 168 := ⟨WL_of (q := 6) (j := 53) rfl rfl, WL_of (q := 1) (j := 12) rfl rfl, Or.inr (Or.inl ⟨rfl, WL_of (q := 6) (j := 52) rfl rfl, WL_of (q := 0) (j := 44) rfl rfl⟩), by decide +kernel, rfl, ⟨by decide +kernel, by decide +kernel, by decide +kernel⟩, by decide⟩
theorem okM_169 : okM 169 := ⟨WL_of (q := 6) (j := 57) rfl rfl, WL_of (q := 1) (j := 12) rfl rfl, Or.inr (Or.inl ⟨rfl, WL_of (q := 6) (j := 55) rfl rfl, WL_of (q := 6) (j := 56) rfl rfl⟩), by decide +kernel, rfl, ⟨by decide +kernel, by decide +kernel, by decide +kernel⟩, by decide⟩
theorem okM_170 : okM 170 := ⟨WL_of (q := 6) (j := 62) rfl rfl, WL_of (q := 1) (j := 12) rfl rfl, Or.inr (Or.inl ⟨rfl, WL_of (q := 6) (j := 61) rfl rfl, WL_of (q := 0) (j := 45) rfl rfl⟩), by decide +kernel, rfl, ⟨by decide +kernel, by decide +kernel, by decide +kernel⟩, by decide⟩
theorem okM_171 : okM 171 := ⟨WL_of (q := 6) (j := 66) rfl rfl, WL_of (q := 1) (j := 12) rfl rfl, Or.inr (Or.inl ⟨rfl, WL_of (q := 6) (j := 64) rfl rfl, WL_of (q := 6) (j := 65) rfl rfl⟩), by decide +kernel, rfl, ⟨by decide +kernel, by decide +kernel, by decide +kernel⟩, by decide⟩
theorem okM_172 : okM 172 := ⟨WL_of (q := 6) (j := 70) rfl rfl, WL_of (q := 1) (j := 12) rfl rfl, Or.inr (Or.inl ⟨rfl, WL_of (q := 6) (j := 69) rfl rfl, WL_of (q := 0) (j := 46) rfl rfl⟩), by decide +kernel, rfl, ⟨by decide +kernel, by decide +kernel, by decide +kernel⟩, by decide⟩
theorem okM_173 : okM 173 := ⟨WL_of (q := 6) (j := 73) rfl rfl, WL_of (q := 1) (j := 12) rfl rfl, Or.inl ⟨rfl, WL_of (q := 6) (j := 72) rfl rfl⟩, by decide +kernel, rfl, ⟨by decide +kernel, by decide +kernel, by decide +kernel⟩, by decide⟩
theorem okM_174 : okM 174 := ⟨WL_of (q := 6) (j := 76) rfl rfl, WL_of (q := 1) (j := 12) rfl rfl, Or.inl ⟨rfl, WL_of (q := 6) (j := 75) rfl rfl⟩, by decide +kernel, rfl, ⟨by decide +kernel, by decide +kernel, by decide +kernel⟩, by decide⟩
theorem okM_175 : okM 175 := ⟨WL_of (q := 6) (j := 80) rfl rfl, WL_of (q := 1) (j := 12) rfl rfl, Or.inr (Or.inl ⟨rfl, WL_of (q := 6) (j := 79) rfl rfl, WL_of (q := 0) (j := 47) rfl rfl⟩), by decide +kernel, rfl, ⟨by decide +kernel, by decide +kernel, by decide +kernel⟩, by decide⟩
theorem okM_176 : okM 176 := ⟨WL_of (q := 6) (j := 84) rfl rfl, WL_of (q := 1) (j := 12) rfl rfl, Or.inr (Or.inl ⟨rfl, WL_of (q := 6) (j := 82) rfl rfl, WL_of (q := 6) (j := 83) rfl rfl⟩), by decide +kernel, rfl, ⟨by decide +kernel, by decide +kernel, by decide +kernel⟩, by decide⟩
theorem okM_177 : okM 177 := ⟨WL_of (q := 6) (j := 88) rfl rfl, WL_of (q := 1) (j := 12) rfl rfl, Or.inr (Or.inl ⟨rfl, WL_of (q := 6) (j := 87) rfl rfl, WL_of (q := 0) (j := 48) rfl rfl⟩), by decide +kernel, rfl, ⟨by decide +kernel, by decide +kernel, by decide +kernel⟩, by decide⟩
theorem okM_178 : okM 178 := ⟨WL_of (q := 6) (j := 92) rfl rfl, WL_of (q := 1) (j := 12) rfl rfl, Or.inr (Or.inl ⟨rfl, WL_of (q := 6) (j := 90) rfl rfl, WL_of (q := 6) (j := 91) rfl rfl⟩), by decide +kernel, rfl, ⟨by decide +kernel, by decide +kernel, by decide +kernel⟩, by decide⟩
theorem okM_179 : okM 179 := ⟨WL_of (q := 6) (j := 96) rfl rfl, WL_of (q := 1) (j := 12) rfl rfl, Or.inr (Or.inl ⟨rfl, WL_of (q := 6) (j := 94) rfl rfl, WL_of (q := 6) (j := 95) rfl rfl⟩), by decide +kernel, rfl, ⟨by decide +kernel, by decide +kernel, by decide +kernel⟩, by decide⟩
theorem okM_180 : okM 180 := ⟨WL_of (q := 6) (j := 99) rfl rfl, WL_of (q := 1) (j := 12) rfl rfl, Or.inl ⟨rfl, WL_of (q := 6) (j := 98) rfl rfl⟩, by decide +kernel, rfl, ⟨by decide +kernel, by decide +kernel, by decide +kernel⟩, by decide⟩
theorem okM_181 : okM 181 := ⟨WL_of (q := 6) (j := 102) rfl rfl, WL_of (q := 1) (j := 12) rfl rfl, Or.inl ⟨rfl, WL_of (q := 6) (j := 101) rfl rfl⟩, by decide +kernel, rfl, ⟨by decide +kernel, by decide +kernel, by decide +kernel⟩, by decide⟩
theorem okM_182 : okM 182 := ⟨WL_of (q := 6) (j := 105) rfl rfl, WL_of (q := 1) (j := 12) rfl rfl, Or.inl ⟨rfl, WL_of (q := 6) (j := 104) rfl rfl⟩, by decide +kernel, rfl, ⟨by decide +kernel, by decide +kernel, by decide +kernel⟩, by decide⟩
theorem okM_183 : okM 183 := ⟨WL_of (q := 6) (j := 109) rfl rfl, WL_of (q := 1) (j := 12) rfl rfl, Or.inr (Or.inl ⟨rfl, WL_of (q := 6) (j := 107) rfl rfl, WL_of (q := 6) (j := 108) rfl rfl⟩), by decide +kernel, rfl, ⟨by decide +kernel, by decide +kernel, by decide +kernel⟩, by decide⟩
theorem okM_184 : okM 184 := ⟨WL_of (q := 6) (j := 112) rfl rfl, WL_of (q := 1) (j := 12) rfl rfl, Or.inl ⟨rfl, WL_of (q := 6) (j := 111) rfl rfl⟩, by decide +kernel, rfl, ⟨by decide +kernel, by decide +kernel, by decide +kernel⟩, by decide⟩
theorem okM_185 : okM 185 := ⟨WL_of (q := 6) (j := 116) rfl rfl, WL_of (q := 1) (j := 12) rfl rfl, Or.inr (Or.inl ⟨rfl, WL_of (q := 6) (j := 115) rfl rfl, WL_of (q := 0) (j := 49) rfl rfl⟩), by decide +kernel, rfl, ⟨by decide +kernel, by decide +kernel, by decide +kernel⟩, by decide⟩
theorem okM_186 : okM 186 := ⟨WL_of (q := 6) (j := 124) rfl rfl, WL_of (q := 1) (j := 12) rfl rfl, Or.inr (Or.inl ⟨rfl, WL_of (q := 6) (j := 123) rfl rfl, WL_of (q := 0) (j := 50) rfl rfl⟩), by decide +kernel, rfl, ⟨by decide +kernel, by decide +kernel, by decide +kernel⟩, by decide⟩
theorem okM_187 : okM 187 := ⟨WL_of (q := 6) (j := 128) rfl rfl, WL_of (q := 1) (j := 12) rfl rfl, Or.inr (Or.inl ⟨rfl, WL_of (q := 6) (j := 127) rfl rfl, WL_of (q := 0) (j := 51) rfl rfl⟩), by decide +kernel, rfl, ⟨by decide +kernel, by decide +kernel, by decide +kernel⟩, by decide⟩
theorem okM_188 : okM 188 := ⟨WL_of (q := 6) (j := 132) rfl rfl, WL_of (q := 1) (j := 12) rfl rfl, Or.inr (Or.inl ⟨rfl, WL_of (q := 6) (j := 131) rfl rfl, WL_of (q := 0) (j := 52) rfl rfl⟩), by decide +kernel, rfl, ⟨by decide +kernel, by decide +kernel, by decide +kernel⟩, by decide⟩
theorem okM_189 : okM 189 := ⟨WL_of (q := 6) (j := 136) rfl rfl, WL_of (q := 1) (j := 12) rfl rfl, Or.inr (Or.inl ⟨rfl, WL_of (q := 6) (j := 135) rfl rfl, WL_of (q := 0) (j := 53) rfl rfl⟩), by decide +kernel, rfl, ⟨by decide +kernel, by decide +kernel, by decide +kernel⟩, by decide⟩
theorem okM_190 : okM 190 := ⟨WL_of (q := 6) (j := 140) rfl rfl, WL_of (q := 1) (j := 12) rfl rfl, Or.inr (Or.inl ⟨rfl, WL_of (q := 6) (j := 139) rfl rfl, WL_of (q := 0) (j := 54) rfl rfl⟩), by decide +kernel, rfl, ⟨by decide +kernel, by decide +kernel, by decide +kernel⟩, by decide⟩
theorem okM_191 : okM 191 := ⟨WL_of (q := 6) (j := 144) rfl rfl, WL_of (q := 1) (j := 12) rfl rfl, Or.inr (Or.inl ⟨rfl, WL_of (q := 6) (j := 143) rfl rfl, WL_of (q := 0) (j := 55) rfl rfl⟩), by decide +kernel, rfl, ⟨by decide +kernel, by decide +kernel, by decide +kernel⟩, by decide⟩
theorem okM_192 : okM 192 := ⟨WL_of (q := 6) (j := 149) rfl rfl, WL_of (q := 1) (j := 12) rfl rfl, Or.inr (Or.inl ⟨rfl, WL_of (q := 6) (j := 147) rfl rfl, WL_of (q := 6) (j := 148) rfl rfl⟩), by decide +kernel, rfl, ⟨by decide +kernel, by decide +kernel, by decide +kernel⟩, by decide⟩
theorem okM_193 : okM 193 := ⟨WL_of (q := 6) (j := 153) rfl rfl, WL_of (q := 1) (j := 12) rfl rfl, Or.inr (Or.inl ⟨rfl, WL_of (q := 6) (j := 152) rfl rfl, WL_of (q := 0) (j := 56) rfl rfl⟩), by decide +kernel, rfl, ⟨by decide +kernel, by decide +kernel, by decide +kernel⟩, by decide⟩
theorem okM_194 : okM 194 := ⟨WL_of (q := 6) (j := 157) rfl rfl, WL_of (q := 1) (j := 12) rfl rfl, Or.inr (Or.inl ⟨rfl, WL_of (q := 6) (j := 156) rfl rfl, WL_of (q := 0) (j := 57) rfl rfl⟩), by decide +kernel, rfl, ⟨by decide +kernel, by decide +kernel, by decide +kernel⟩, by decide⟩
theorem okM_195 : okM 195 := ⟨WL_of (q := 6) (j := 161) rfl rfl, WL_of (q := 1) (j := 12) rfl rfl, Or.inr (Or.inl ⟨rfl, WL_of (q := 6) (j := 160) rfl rfl, WL_of (q := 0) (j := 58) rfl rfl⟩), by decide +kernel, rfl, ⟨by decide +kernel, by decide +kernel, by decide +kernel⟩, by decide⟩
theorem okM_196 : okM 196 := ⟨WL_of (q := 6) (j := 165) rfl rfl, WL_of (q := 1) (j := 12) rfl rfl, Or.inr (Or.inl ⟨rfl, WL_of (q := 6) (j := 164) rfl rfl, WL_of (q := 0) (j := 59) rfl rfl⟩), by decide +kernel, rfl, ⟨by decide +kernel, by decide +kernel, by decide +kernel⟩, by decide⟩
theorem okM_197 : okM 197 := ⟨WL_of (q := 6) (j := 171) rfl rfl, WL_of (q := 1) (j := 12) rfl rfl, Or.inr (Or.inl ⟨rfl, WL_of (q := 6) (j := 170) rfl rfl, WL_of (q := 0) (j := 60) rfl rfl⟩), by decide +kernel, rfl, ⟨by decide +kernel, by decide +kernel, by decide +kernel⟩, by decide⟩
theorem okM_198 : okM 198 := ⟨WL_of (q := 6) (j := 175) rfl rfl, WL_of (q := 1) (j := 12) rfl rfl, Or.inr (Or.inl ⟨rfl, WL_of (q := 6) (j := 174) rfl rfl, WL_of (q := 0) (j := 61) rfl rfl⟩), by decide +kernel, rfl, ⟨by decide +kernel, by decide +kernel, by decide +kernel⟩, by decide⟩
theorem okM_199 : okM 199 := ⟨WL_of (q := 6) (j := 179) rfl rfl, WL_of (q := 1) (j := 12) rfl rfl, Or.inr (Or.inl ⟨rfl, WL_of (q := 6) (j := 178) rfl rfl, WL_of (q := 0) (j := 62) rfl rfl⟩), by decide +kernel, rfl, ⟨by decide +kernel, by decide +kernel, by decide +kernel⟩, by decide⟩
theorem okM_200 : okM 200 := ⟨WL_of (q := 6) (j := 184) rfl rfl, WL_of (q := 1) (j := 12) rfl rfl, Or.inr (Or.inl ⟨rfl, WL_of (q := 6) (j := 183) rfl rfl, WL_of (q := 0) (j := 63) rfl rfl⟩), by decide +kernel, rfl, ⟨by decide +kernel, by decide +kernel, by decide +kernel⟩, by decide⟩
theorem okM_201 : okM 201 := ⟨WL_of (q := 6) (j := 190) rfl rfl, WL_of (q := 1) (j := 12) rfl rfl, Or.inr (Or.inl ⟨rfl, WL_of (q := 6) (j := 188) rfl rfl, WL_of (q := 6) (j := 189) rfl rfl⟩), by decide +kernel, rfl, ⟨by decide +kernel, by decide +kernel, by decide +kernel⟩, by decide⟩
theorem okM_202 : okM 202 := ⟨WL_of (q := 6) (j := 194) rfl rfl, WL_of (q := 1) (j := 12) rfl rfl, Or.inr (Or.inl ⟨rfl, WL_of (q := 6) (j := 192) rfl rfl, WL_of (q := 6) (j := 193) rfl rfl⟩), by decide +kernel, rfl, ⟨by decide +kernel, by decide +kernel, by decide +kernel⟩, by decide⟩
theorem okM_203 : okM 203 := ⟨WL_of (q := 6) (j := 198) rfl rfl, WL_of (q := 1) (j := 12) rfl rfl, Or.inr (Or.inl ⟨rfl, WL_of (q := 6) (j := 196) rfl rfl, WL_of (q := 6) (j := 197) rfl rfl⟩), by decide +kernel, rfl, ⟨by decide +kernel, by decide +kernel, by decide +kernel⟩, by decide⟩
theorem okM_204 : okM 204 := ⟨WL_of (q := 6) (j := 202) rfl rfl, WL_of (q := 1) (j := 12) rfl rfl, Or.inr (Or.inl ⟨rfl, WL_of (q := 6) (j := 201) rfl rfl, WL_of (q := 0) (j := 64) rfl rfl⟩), by decide +kernel, rfl, ⟨by decide +kernel, by decide +kernel, by decide +kernel⟩, by decide⟩
theorem okM_205 : okM 205 := ⟨WL_of (q := 6) (j := 206) rfl rfl, WL_of (q := 1) (j := 12) rfl rfl, Or.inr (Or.inl ⟨rfl, WL_of (q := 6) (j := 205) rfl rfl, WL_of (q := 0) (j := 65) rfl rfl⟩), by decide +kernel, rfl, ⟨by decide +kernel, by decide +kernel, by decide +kernel⟩, by decide⟩
theorem okM_206 : okM 206 := ⟨WL_of (q := 6) (j := 210) rfl rfl, WL_of (q := 1) (j := 12) rfl rfl, Or.inr (Or.inl ⟨rfl, WL_of (q := 6) (j := 209) rfl rfl, WL_of (q := 0) (j := 66) rfl rfl⟩), by decide +kernel, rfl, ⟨by decide +kernel, by decide +kernel, by decide +kernel⟩, by decide⟩
theorem okM_207 : okM 207 := ⟨WL_of (q := 6) (j := 214) rfl rfl, WL_of (q := 1) (j := 12) rfl rfl, Or.inr (Or.inl ⟨rfl, WL_of (q := 6) (j := 212) rfl rfl, WL_of (q := 6) (j := 213) rfl rfl⟩), by decide +kernel, rfl, ⟨by decide +kernel, by decide +kernel, by decide +kernel⟩, by decide⟩
theorem okM_208 : okM 208 := ⟨WL_of (q := 6) (j := 218) rfl rfl, WL_of (q := 1) (j := 12) rfl rfl, Or.inr (Or.inl ⟨rfl, WL_of (q := 6) (j := 216) rfl rfl, WL_of (q := 6) (j := 217) rfl rfl⟩), by decide +kernel, rfl, ⟨by decide +kernel, by decide +kernel, by decide +kernel⟩, by decide⟩
theorem okM_209 : okM 209 := ⟨WL_of (q := 6) (j := 222) rfl rfl, WL_of (q := 1) (j := 12) rfl rfl, Or.inr (Or.inl ⟨rfl, WL_of (q := 6) (j := 221) rfl rfl, WL_of (q := 0) (j := 67) rfl rfl⟩), by decide +kernel, rfl, ⟨by decide +kernel, by decide +kernel, by decide +kernel⟩, by decide⟩
theorem okM_210 : okM 210 := ⟨WL_of (q := 6) (j := 226) rfl rfl, WL_of (q := 1) (j := 12) rfl rfl, Or.inr (Or.inl ⟨rfl, WL_of (q := 6) (j := 225) rfl rfl, WL_of (q := 0) (j := 68) rfl rfl⟩), by decide +kernel, rfl, ⟨by decide +kernel, by decide +kernel, by decide +kernel⟩, by decide⟩
theorem okM_211 : okM 211 := ⟨WL_of (q := 6) (j := 229) rfl rfl, WL_of (q := 1) (j := 12) rfl rfl, Or.inl ⟨rfl, WL_of (q := 6) (j := 228) rfl rfl⟩, by decide +kernel, rfl, ⟨by decide +kernel, by decide +kernel, by decide +kernel⟩, by decide⟩
theorem okM_212 : okM 212 := ⟨WL_of (q := 6) (j := 233) rfl rfl, WL_of (q := 1) (j := 12) rfl rfl, Or.inr (Or.inl ⟨rfl, WL_of (q := 6) (j := 231) rfl rfl, WL_of (q := 6) (j := 232) rfl rfl⟩), by decide +kernel, rfl, ⟨by decide +kernel, by decide +kernel, by decide +kernel⟩, by decide⟩
theorem okM_213 : okM 213 := ⟨WL_of (q := 6) (j := 237) rfl rfl, WL_of (q := 1) (j := 12) rfl rfl, Or.inr (Or.inl ⟨rfl, WL_of (q := 6) (j := 235) rfl rfl, WL_of (q := 6) (j := 236) rfl rfl⟩), by decide +kernel, rfl, ⟨by decide +kernel, by decide +kernel, by decide +kernel⟩, by decide⟩
theorem okM_214 : okM 214 := ⟨WL_of (q := 7) (j := 1) rfl rfl, WL_of (q := 1) (j := 12) rfl rfl, Or.inr (Or.inl ⟨rfl, WL_of (q := 6) (j := 239) rfl rfl, WL_of (q := 7) (j := 0) rfl rfl⟩), by decide +kernel, rfl, ⟨by decide +kernel, by decide +kernel, by decide +kernel⟩, by decide⟩
theorem okM_215 : okM 215 := ⟨WL_of (q := 7) (j := 5) rfl rfl, WL_of (q := 1) (j := 12) rfl rfl, Or.inr (Or.inl ⟨rfl, WL_of (q := 7) (j := 3) rfl rfl, WL_of (q := 7) (j := 4) rfl rfl⟩), by decide +kernel, rfl, ⟨by decide +kernel, by decide +kernel, by decide +kernel⟩, by decide⟩
theorem okM_216 : okM 216 := ⟨WL_of (q := 7) (j := 10) rfl rfl, WL_of (q := 1) (j := 12) rfl rfl, Or.inr (Or.inl ⟨rfl, WL_of (q := 7) (j := 8) rfl rfl, WL_of (q := 7) (j := 9) rfl rfl⟩), by decide +kernel, rfl, ⟨by decide +kernel, by decide +kernel, by decide +kernel⟩, by decide⟩
theorem okM_217 : okM 217 := ⟨WL_of (q := 7) (j := 14) rfl rfl, WL_of (q := 1) (j := 12) rfl rfl, Or.inr (Or.inl ⟨rfl, WL_of (q := 7) (j := 12) rfl rfl, WL_of (q := 7) (j := 13) rfl rfl⟩), by decide +kernel, rfl, ⟨by decide +kernel, by decide +kernel, by decide +kernel⟩, by decide⟩
theorem okM_218 : okM 218 := ⟨WL_of (q := 7) (j := 18) rfl rfl, WL_of (q := 1) (j := 12) rfl rfl, Or.inr (Or.inl ⟨rfl, WL_of (q := 7) (j := 16) rfl rfl, WL_of (q := 7) (j := 17) rfl rfl⟩), by decide +kernel, rfl, ⟨by decide +kernel, by decide +kernel, by decide +kernel⟩, by decide⟩
def NM : Nat := 219
theorem okM_all : ∀ i, i < NM → okM i := by
  intro i hi
  have hi : i < 219 := hi
  match i, hi with
  | 0, _ => exact okM_0
  | 1, _ => exact okM_1
  | 2, _ => exact okM_2
  | 3, _ => exact okM_3
  | 4, _ => exact okM_4
  | 5, _ => exact okM_5
  | 6, _ => exact okM_6
  | 7, _ => exact okM_7
  | 8, _ => exact okM_8
  | 9, _ => exact okM_9
  | 10, _ => exact okM_10
  | 11, _ => exact okM_11
  | 12, _ => exact okM_12
  | 13, _ => exact okM_13
  | 14, _ => exact okM_14
  | 15, _ => exact okM_15
  | 16, _ => exact okM_16
  | 17, _ => exact okM_17
  | 18, _ => exact okM_18
  | 19, _ => exact okM_19
  | 20, _ => exact okM_20
  | 21, _ => exact okM_21
  | 22, _ => exact okM_22
  | 23, _ => exact okM_23
  | 24, _ => exact okM_24
  | 25, _ => exact okM_25
  | 26, _ => exact okM_26
  | 27, _ => exact okM_27
  | 28, _ => exact okM_28
  | 29, _ => exact okM_29
  | 30, _ => exact okM_30
  | 31, _ => exact okM_31
  | 32, _ => exact okM_32
  | 33, _ => exact okM_33
  | 34, _ => exact okM_34
  | 35, _ => exact okM_35
  | 36, _ => exact okM_36
  | 37, _ => exact okM_37
  | 38, _ => exact okM_38
  | 39, _ => exact okM_39
  | 40, _ => exact okM_40
  | 41, _ => exact okM_41
  | 42, _ => exact okM_42
  | 43, _ => exact okM_43
  | 44, _ => exact okM_44
  | 45, _ => exact okM_45
  | 46, _ => exact okM_46
  | 47, _ => exact okM_47
  | 48, _ => exact okM_48
  | 49, _ => exact okM_49
  | 50, _ => exact okM_50
  | 51, _ => exact okM_51
  | 52, _ => exact okM_52
  | 53, _ => exact okM_53
  | 54, _ => exact okM_54
  | 55, _ => exact okM_55
  | 56, _ => exact okM_56
  | 57, _ => exact okM_57
  | 58, _ => exact okM_58
  | 59, _ => exact okM_59
  | 60, _ => exact okM_60
  | 61, _ => exact okM_61
  | 62, _ => exact okM_62
  | 63, _ => exact okM_63
  | 64, _ => exact okM_64
  | 65, _ => exact okM_65
  | 66, _ => exact okM_66
  | 67, _ => exact okM_67
  | 68, _ => exact okM_68
  | 69, _ => exact okM_69
  | 70, _ => exact okM_70
  | 71, _ => exact okM_71
  | 72, _ => exact okM_72
  | 73, _ => exact okM_73
  | 74, _ => exact okM_74
  | 75, _ => exact okM_75
  | 76, _ => exact okM_76
  | 77, _ => exact okM_77
  | 78, _ => exact okM_78
  | 79, _ => exact okM_79
  | 80, _ => exact okM_80
  | 81, _ => exact okM_81
  | 82, _ => exact okM_82
  | 83, _ => exact okM_83
  | 84, _ => exact okM_84
  | 85, _ => exact okM_85
  | 86, _ => exact okM_86
  | 87, _ => exact okM_87
  | 88, _ => exact okM_88
  | 89, _ => exact okM_89
  | 90, _ => exact okM_90
  | 91, _ => exact okM_91
  | 92, _ => exact okM_92
  | 93, _ => exact okM_93
  | 94, _ => exact okM_94
  | 95, _ => exact okM_95
  | 96, _ => exact okM_96
  | 97, _ => exact okM_97
  | 98, _ => exact okM_98
  | 99, _ => exact okM_99
  | 100, _ => exact okM_100
  | 101, _ => exact okM_101
  | 102, _ => exact okM_102
  | 103, _ => exact okM_103
  | 104, _ => exact okM_104
  | 105, _ => exact okM_105
  | 106, _ => exact okM_106
  | 107, _ => exact okM_107
  | 108, _ => exact okM_108
  | 109, _ => exact okM_109
  | 110, _ => exact okM_110
  | 111, _ => exact okM_111
  | 112, _ => exact okM_112
  | 113, _ => exact okM_113
  | 114, _ => exact okM_114
  | 115, _ => exact okM_115
  | 116, _ => exact okM_116
  | 117, _ => exact okM_117
  | 118, _ => exact okM_118
  | 119, _ => exact okM_119
  | 120, _ => exact okM_120
  | 121, _ => exact okM_121
  | 122, _ => exact okM_122
  | 123, _ => exact okM_123
  | 124, _ => exact okM_124
  | 125, _ => exact okM_125
  | 126, _ => exact okM_126
  | 127, _ => exact okM_127
  | 128, _ => exact okM_128
  | 129, _ => exact okM_129
  | 130, _ => exact okM_130
  | 131, _ => exact okM_131
  | 132, _ => exact okM_132
  | 133, _ => exact okM_133
  | 134, _ => exact okM_134
  | 135, _ => exact okM_135
  | 136, _ => exact okM_136
  | 137, _ => exact okM_137
  | 138, _ => exact okM_138
  | 139, _ => exact okM_139
  | 140, _ => exact okM_140
  | 141, _ => exact okM_141
  | 142, _ => exact okM_142
  | 143, _ => exact okM_143
  | 144, _ => exact okM_144
  | 145, _ => exact okM_145
  | 146, _ => exact okM_146
  | 147, _ => exact okM_147
  | 148, _ => exact okM_148
  | 149, _ => exact okM_149
  | 150, _ => exact okM_150
  | 151, _ => exact okM_151
  | 152, _ => exact okM_152
  | 153, _ => exact okM_153
  | 154, _ => exact okM_154
  | 155, _ => exact okM_155
  | 156, _ => exact okM_156
  | 157, _ => exact okM_157
  | 158, _ => exact okM_158
  | 159, _ => exact okM_159
  | 160, _ => exact okM_160
  | 161, _ => exact okM_161
  | 162, _ => exact okM_162
  | 163, _ => exact okM_163
  | 164, _ => exact okM_164
  | 165, _ => exact okM_165
  | 166, _ => exact okM_166
  | 167, _ => exact okM_167
  | 168, _ => exact okM_168
  | 169, _ => exact okM_169
  | 170, _ => exact okM_170
  | 171, _ => exact okM_171
  | 172, _ => exact okM_172
  | 173, _ => exact okM_173
  | 174, _ => exact okM_174
  | 175, _ => exact okM_175
  | 176, _ => exact okM_176
  | 177, _ => exact okM_177
  | 178, _ => exact okM_178
  | 179, _ => exact okM_179
  | 180, _ => exact okM_180
  | 181, _ => exact okM_181
  | 182, _ => exact okM_182
  | 183, _ => exact okM_183
  | 184, _ => exact okM_184
  | 185, _ => exact okM_185
  | 186, _ => exact okM_186
  | 187, _ => exact okM_187
  | 188, _ => exact okM_188
  | 189, _ => exact okM_189
  | 190, _ => exact okM_190
  | 191, _ => exact okM_191
  | 192, _ => exact okM_192
  | 193, _ => exact okM_193
  | 194, _ => exact okM_194
  | 195, _ => exact okM_195
  | 196, _ => exact okM_196
  | 197, _ => exact okM_197
  | 198, _ => exact okM_198
  | 199, _ => exact okM_199
  | 200, _ => exact okM_200
  | 201, _ => exact okM_201
  | 202, _ => exact okM_202
  | 203, _ => exact okM_203
  | 204, _ => exact okM_204
  | 205, _ => exact okM_205
  | 206, _ => exact okM_206
  | 207, _ => exact okM_207
  | 208, _ => exact okM_208
  | 209, _ => exact okM_209
  | 210, _ => exact okM_210
  | 211, _ => exact okM_211
  | 212, _ => exact okM_212
  | 213, _ => exact okM_213
  | 214, _ => exact okM_214
  | 215, _ => exact okM_215
  | 216, _ => exact okM_216
  | 217, _ => exact okM_217
  | 218, _ => exact okM_218
  | i + 219, hi => omega
