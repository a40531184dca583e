/-! Each method's code stands in the tables: the next ones. -/
set_option maxRecDepth 100000 in
theorem eCW_6 : eCWp 6 := fun M h => by cases h; exact List.mem_of_getElem? (i := 502) rfl
set_option maxRecDepth 100000 in
theorem eCW_7 : eCWp 7 := fun M h => by cases h; exact List.mem_of_getElem? (i := 506) rfl
set_option maxRecDepth 100000 in
theorem eCW_8 : eCWp 8 := fun M h => by cases h; exact List.mem_of_getElem? (i := 514) rfl
set_option maxRecDepth 100000 in
theorem eCW_9 : eCWp 9 := fun M h => by cases h; exact List.mem_of_getElem? (i := 583) rfl
set_option maxRecDepth 100000 in
theorem eCW_10 : eCWp 10 := fun M h => by cases h; exact List.mem_of_getElem? (i := 690) rfl
set_option maxRecDepth 100000 in
theorem eCW_11 : eCWp 11 := fun M h => by cases h; exact List.mem_of_getElem? (i := 749) rfl
set_option maxRecDepth 100000 in
theorem eCW_12 : eCWp 12 := fun M h => by cases h; exact List.mem_of_getElem? (i := 781) rfl
set_option maxRecDepth 100000 in
theorem eCW_13 : eCWp 13 := fun M h => by cases h; exact List.mem_of_getElem? (i := 793) rfl
set_option maxRecDepth 100000 in
theorem eCW_14 : eCWp 14 := fun M h => by cases h; exact List.mem_of_getElem? (i := 800) rfl
set_option maxRecDepth 100000 in
theorem eCW_15 : eCWp 15 := fun M h => by cases h; exact List.mem_of_getElem? (i := 804) rfl
set_option maxRecDepth 100000 in
theorem eCW_16 : eCWp 16 := fun M h => by cases h; exact List.mem_of_getElem? (i := 809) rfl
set_option maxRecDepth 100000 in
theorem eCW_17 : eCWp 17 := fun M h => by cases h; exact List.mem_of_getElem? (i := 813) rfl
set_option maxRecDepth 100000 in
theorem eCW_18 : eCWp 18 := fun M h => by cases h; exact List.mem_of_getElem? (i := 818) rfl
set_option maxRecDepth 100000 in
theorem eCW_19 : eCWp 19 := fun M h => by cases h; exact List.mem_of_getElem? (i := 822) rfl
set_option maxRecDepth 100000 in
theorem eCW_20 : eCWp 20 := fun M h => by cases h; exact List.mem_of_getElem? (i := 827) rfl
set_option maxRecDepth 100000 in
theorem eCW_21 : eCWp 21 := fun M h => by cases h; exact List.mem_of_getElem? (i := 839) rfl
set_option maxRecDepth 100000 in
theorem eCW_22 : eCWp 22 := fun M h => by cases h; exact List.mem_of_getElem? (i := 843) rfl
set_option maxRecDepth 100000 in
theorem eCW_23 : eCWp 23 := fun M h => by cases h; exact List.mem_of_getElem? (i := 848) rfl
set_option maxRecDepth 100000 in
theorem eCW_24 : eCWp 24 := fun M h => by cases h; exact List.mem_of_getElem? (i := 857) rfl
set_option maxRecDepth 100000 in
theorem eCW_25 : eCWp 25 := fun M h => by cases h; exact List.mem_of_getElem? (i := 861) rfl
set_option maxRecDepth 100000 in
theorem eCW_26 : eCWp 26 := fun M h => by cases h; exact List.mem_of_getElem? (i := 870) rfl
set_option maxRecDepth 100000 in
theorem eCW_27 : eCWp 27 := fun M h => by cases h; exact List.mem_of_getElem? (i := 874) rfl
set_option maxRecDepth 100000 in
theorem eCW_28 : eCWp 28 := fun M h => by cases h; exact List.mem_of_getElem? (i := 886) rfl
set_option maxRecDepth 100000 in
theorem eCW_29 : eCWp 29 := fun M h => by cases h; exact List.mem_of_getElem? (i := 890) rfl
set_option maxRecDepth 100000 in
theorem eCW_30 : eCWp 30 := fun M h => by cases h; exact List.mem_of_getElem? (i := 898) rfl
set_option maxRecDepth 100000 in
theorem eCW_31 : eCWp 31 := fun M h => by cases h; exact List.mem_of_getElem? (i := 904) rfl
set_option maxRecDepth 100000 in
theorem eCW_32 : eCWp 32 := fun M h => by cases h; exact List.mem_of_getElem? (i := 913) rfl
set_option maxRecDepth 100000 in
theorem eCW_33 : eCWp 33 := fun M h => by cases h; exact List.mem_of_getElem? (i := 917) rfl
set_option maxRecDepth 100000 in
theorem eCW_34 : eCWp 34 := fun M h => by cases h; exact List.mem_of_getElem? (i := 922) rfl
set_option maxRecDepth 100000 in
theorem eCW_35 : eCWp 35 := fun M h => by cases h; exact List.mem_of_getElem? (i := 933) rfl
set_option maxRecDepth 100000 in
theorem eCW_36 : eCWp 36 := fun M h => by cases h; exact List.mem_of_getElem? (i := 941) rfl
set_option maxRecDepth 100000 in
theorem eCW_37 : eCWp 37 := fun M h => by cases h; exact List.mem_of_getElem? (i := 949) rfl
set_option maxRecDepth 100000 in
theorem eCW_38 : eCWp 38 := fun M h => by cases h; exact List.mem_of_getElem? (i := 953) rfl
set_option maxRecDepth 100000 in
theorem eCW_39 : eCWp 39 := fun M h => by cases h; exact List.mem_of_getElem? (i := 962) rfl
set_option maxRecDepth 100000 in
theorem eCW_40 : eCWp 40 := fun M h => by cases h; exact List.mem_of_getElem? (i := 970) rfl
set_option maxRecDepth 100000 in
theorem eCW_41 : eCWp 41 := fun M h => by cases h; exact List.mem_of_getElem? (i := 978) rfl
set_option maxRecDepth 100000 in
theorem eCW_42 : eCWp 42 := fun M h => by cases h; exact List.mem_of_getElem? (i := 986) rfl
set_option maxRecDepth 100000 in
theorem eCW_43 : eCWp 43 := fun M h => by cases h; exact List.mem_of_getElem? (i := 997) rfl
set_option maxRecDepth 100000 in
theorem eCW_44 : eCWp 44 := fun M h => by cases h; exact List.mem_of_getElem? (i := 1022) rfl
set_option maxRecDepth 100000 in
theorem eCW_45 : eCWp 45 := fun M h => by cases h; exact List.mem_of_getElem? (i := 1030) rfl
set_option maxRecDepth 100000 in
theorem eCW_46 : eCWp 46 := fun M h => by cases h; exact List.mem_of_getElem? (i := 1043) rfl
set_option maxRecDepth 100000 in
theorem eCW_47 : eCWp 47 := fun M h => by cases h; exact List.mem_of_getElem? (i := 1051) rfl
set_option maxRecDepth 100000 in
theorem eCW_48 : eCWp 48 := fun M h => by cases h; exact List.mem_of_getElem? (i := 1063) rfl
set_option maxRecDepth 100000 in
theorem eCW_49 : eCWp 49 := fun M h => by cases h; exact List.mem_of_getElem? (i := 1068) rfl
set_option maxRecDepth 100000 in
theorem eCW_50 : eCWp 50 := fun M h => by cases h; exact List.mem_of_getElem? (i := 1077) rfl
set_option maxRecDepth 100000 in
theorem eCW_51 : eCWp 51 := fun M h => by cases h; exact List.mem_of_getElem? (i := 1088) rfl
set_option maxRecDepth 100000 in
theorem eCW_52 : eCWp 52 := fun M h => by cases h; exact List.mem_of_getElem? (i := 450) rfl
set_option maxRecDepth 100000 in
theorem eCW_53 : eCWp 53 := fun M h => by cases h; exact List.mem_of_getElem? (i := 694) rfl
set_option maxRecDepth 100000 in
theorem eCW_54 : eCWp 54 := fun M h => by cases h; exact List.mem_of_getElem? (i := 1093) rfl
set_option maxRecDepth 100000 in
theorem eCW_55 : eCWp 55 := fun M h => by cases h; exact List.mem_of_getElem? (i := 1289) rfl
set_option maxRecDepth 100000 in
theorem eCW_56 : eCWp 56 := fun M h => by cases h; exact List.mem_of_getElem? (i := 1329) rfl
set_option maxRecDepth 100000 in
theorem eCW_57 : eCWp 57 := fun M h => by cases h; exact List.mem_of_getElem? (i := 1333) rfl
set_option maxRecDepth 100000 in
theorem eCW_58 : eCWp 58 := fun M h => by cases h; exact List.mem_of_getElem? (i := 1293) rfl
set_option maxRecDepth 100000 in
theorem eCW_59 : eCWp 59 := fun M h => by cases h; exact List.mem_of_getElem? (i := 1286) rfl
set_option maxRecDepth 100000 in
theorem eCW_60 : eCWp 60 := fun M h => by cases h; exact List.mem_of_getElem? (i := 1297) rfl
set_option maxRecDepth 100000 in
theorem eCW_61 : eCWp 61 := fun M h => by cases h; exact List.mem_of_getElem? (i := 1305) rfl
set_option maxRecDepth 100000 in
theorem eCW_62 : eCWp 62 := fun M h => by cases h; exact List.mem_of_getElem? (i := 1344) rfl
set_option maxRecDepth 100000 in
theorem eCW_63 : eCWp 63 := fun M h => by cases h; exact List.mem_of_getElem? (i := 1313) rfl
set_option maxRecDepth 100000 in
theorem eCW_64 : eCWp 64 := fun M h => by cases h; exact List.mem_of_getElem? (i := 1340) rfl
set_option maxRecDepth 100000 in
theorem eCW_65 : eCWp 65 := fun M h => by cases h; exact List.mem_of_getElem? (i := 1309) rfl
set_option maxRecDepth 100000 in
theorem eCW_66 : eCWp 66 := fun M h => by cases h; exact List.mem_of_getElem? (i := 1317) rfl
set_option maxRecDepth 100000 in
theorem eCW_67 : eCWp 67 := fun M h => by cases h; exact List.mem_of_getElem? (i := 1325) rfl
set_option maxRecDepth 100000 in
theorem eCW_68 : eCWp 68 := fun M h => by cases h; exact List.mem_of_getElem? (i := 1336) rfl
set_option maxRecDepth 100000 in
theorem eCW_69 : eCWp 69 := fun M h => by cases h; exact List.mem_of_getElem? (i := 1321) rfl
set_option maxRecDepth 100000 in
theorem eCW_70 : eCWp 70 := fun M h => by cases h; exact List.mem_of_getElem? (i := 1348) rfl
set_option maxRecDepth 100000 in
theorem eCW_71 : eCWp 71 := fun M h => by cases h; exact List.mem_of_getElem? (i := 1352) rfl
set_option maxRecDepth 100000 in
theorem eCW_72 : eCWp 72 := fun M h => by cases h; exact List.mem_of_getElem? (i := 1392) rfl
set_option maxRecDepth 100000 in
theorem eCW_73 : eCWp 73 := fun M h => by cases h; exact List.mem_of_getElem? (i := 1407) rfl
set_option maxRecDepth 100000 in
theorem eCW_74 : eCWp 74 := fun M h => by cases h; exact List.mem_of_getElem? (i := 1399) rfl
