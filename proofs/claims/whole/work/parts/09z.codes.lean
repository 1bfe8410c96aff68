/-! each method's code word, by its place -/
set_option maxRecDepth 100000 in
theorem zpf_b : (List.range 283).all (fun a => plainFor (zy a) && decide ((zy a).cls = zow a) && decide (znl a ≤ 21)) = true := by decide +kernel
set_option maxRecDepth 100000 in
theorem zcd_0 : lw_tbl[(zmr.getD 0 (0, 0, 0, 0, 0)).2.1]? = some (.code (zy 0) (zbs 0) (znl 0) (zrt 0)) := rfl
set_option maxRecDepth 100000 in
theorem zcd_1 : lw_tbl[(zmr.getD 1 (0, 0, 0, 0, 0)).2.1]? = some (.code (zy 1) (zbs 1) (znl 1) (zrt 1)) := rfl
set_option maxRecDepth 100000 in
theorem zcd_2 : lw_tbl[(zmr.getD 2 (0, 0, 0, 0, 0)).2.1]? = some (.code (zy 2) (zbs 2) (znl 2) (zrt 2)) := rfl
set_option maxRecDepth 100000 in
theorem zcd_3 : lw_tbl[(zmr.getD 3 (0, 0, 0, 0, 0)).2.1]? = some (.code (zy 3) (zbs 3) (znl 3) (zrt 3)) := rfl
set_option maxRecDepth 100000 in
theorem zcd_4 : lw_tbl[(zmr.getD 4 (0, 0, 0, 0, 0)).2.1]? = some (.code (zy 4) (zbs 4) (znl 4) (zrt 4)) := rfl
set_option maxRecDepth 100000 in
theorem zcd_5 : lw_tbl[(zmr.getD 5 (0, 0, 0, 0, 0)).2.1]? = some (.code (zy 5) (zbs 5) (znl 5) (zrt 5)) := rfl
set_option maxRecDepth 100000 in
theorem zcd_6 : lw_tbl[(zmr.getD 6 (0, 0, 0, 0, 0)).2.1]? = some (.code (zy 6) (zbs 6) (znl 6) (zrt 6)) := rfl
set_option maxRecDepth 100000 in
theorem zcd_7 : lw_tbl[(zmr.getD 7 (0, 0, 0, 0, 0)).2.1]? = some (.code (zy 7) (zbs 7) (znl 7) (zrt 7)) := rfl
set_option maxRecDepth 100000 in
theorem zcd_8 : lw_tbl[(zmr.getD 8 (0, 0, 0, 0, 0)).2.1]? = some (.code (zy 8) (zbs 8) (znl 8) (zrt 8)) := rfl
set_option maxRecDepth 100000 in
theorem zcd_9 : lw_tbl[(zmr.getD 9 (0, 0, 0, 0, 0)).2.1]? = some (.code (zy 9) (zbs 9) (znl 9) (zrt 9)) := rfl
set_option maxRecDepth 100000 in
theorem zcd_10 : lw_tbl[(zmr.getD 10 (0, 0, 0, 0, 0)).2.1]? = some (.code (zy 10) (zbs 10) (znl 10) (zrt 10)) := rfl
set_option maxRecDepth 100000 in
theorem zcd_11 : lw_tbl[(zmr.getD 11 (0, 0, 0, 0, 0)).2.1]? = some (.code (zy 11) (zbs 11) (znl 11) (zrt 11)) := rfl
set_option maxRecDepth 100000 in
theorem zcd_12 : lw_tbl[(zmr.getD 12 (0, 0, 0, 0, 0)).2.1]? = some (.code (zy 12) (zbs 12) (znl 12) (zrt 12)) := rfl
set_option maxRecDepth 100000 in
theorem zcd_13 : lw_tbl[(zmr.getD 13 (0, 0, 0, 0, 0)).2.1]? = some (.code (zy 13) (zbs 13) (znl 13) (zrt 13)) := rfl
set_option maxRecDepth 100000 in
theorem zcd_14 : lw_tbl[(zmr.getD 14 (0, 0, 0, 0, 0)).2.1]? = some (.code (zy 14) (zbs 14) (znl 14) (zrt 14)) := rfl
set_option maxRecDepth 100000 in
theorem zcd_15 : lw_tbl[(zmr.getD 15 (0, 0, 0, 0, 0)).2.1]? = some (.code (zy 15) (zbs 15) (znl 15) (zrt 15)) := rfl
set_option maxRecDepth 100000 in
theorem zcd_16 : lw_tbl[(zmr.getD 16 (0, 0, 0, 0, 0)).2.1]? = some (.code (zy 16) (zbs 16) (znl 16) (zrt 16)) := rfl
set_option maxRecDepth 100000 in
theorem zcd_17 : lw_tbl[(zmr.getD 17 (0, 0, 0, 0, 0)).2.1]? = some (.code (zy 17) (zbs 17) (znl 17) (zrt 17)) := rfl
set_option maxRecDepth 100000 in
theorem zcd_18 : lw_tbl[(zmr.getD 18 (0, 0, 0, 0, 0)).2.1]? = some (.code (zy 18) (zbs 18) (znl 18) (zrt 18)) := rfl
set_option maxRecDepth 100000 in
theorem zcd_19 : lw_tbl[(zmr.getD 19 (0, 0, 0, 0, 0)).2.1]? = some (.code (zy 19) (zbs 19) (znl 19) (zrt 19)) := rfl
set_option maxRecDepth 100000 in
theorem zcd_20 : lw_tbl[(zmr.getD 20 (0, 0, 0, 0, 0)).2.1]? = some (.code (zy 20) (zbs 20) (znl 20) (zrt 20)) := rfl
set_option maxRecDepth 100000 in
theorem zcd_21 : lw_tbl[(zmr.getD 21 (0, 0, 0, 0, 0)).2.1]? = some (.code (zy 21) (zbs 21) (znl 21) (zrt 21)) := rfl
set_option maxRecDepth 100000 in
theorem zcd_22 : lw_tbl[(zmr.getD 22 (0, 0, 0, 0, 0)).2.1]? = some (.code (zy 22) (zbs 22) (znl 22) (zrt 22)) := rfl
set_option maxRecDepth 100000 in
theorem zcd_23 : lw_tbl[(zmr.getD 23 (0, 0, 0, 0, 0)).2.1]? = some (.code (zy 23) (zbs 23) (znl 23) (zrt 23)) := rfl
set_option maxRecDepth 100000 in
theorem zcd_24 : lw_tbl[(zmr.getD 24 (0, 0, 0, 0, 0)).2.1]? = some (.code (zy 24) (zbs 24) (znl 24) (zrt 24)) := rfl
set_option maxRecDepth 100000 in
theorem zcd_25 : lw_tbl[(zmr.getD 25 (0, 0, 0, 0, 0)).2.1]? = some (.code (zy 25) (zbs 25) (znl 25) (zrt 25)) := rfl
set_option maxRecDepth 100000 in
theorem zcd_26 : lw_tbl[(zmr.getD 26 (0, 0, 0, 0, 0)).2.1]? = some (.code (zy 26) (zbs 26) (znl 26) (zrt 26)) := rfl
set_option maxRecDepth 100000 in
theorem zcd_27 : lw_tbl[(zmr.getD 27 (0, 0, 0, 0, 0)).2.1]? = some (.code (zy 27) (zbs 27) (znl 27) (zrt 27)) := rfl
set_option maxRecDepth 100000 in
theorem zcd_28 : lw_tbl[(zmr.getD 28 (0, 0, 0, 0, 0)).2.1]? = some (.code (zy 28) (zbs 28) (znl 28) (zrt 28)) := rfl
set_option maxRecDepth 100000 in
theorem zcd_29 : lw_tbl[(zmr.getD 29 (0, 0, 0, 0, 0)).2.1]? = some (.code (zy 29) (zbs 29) (znl 29) (zrt 29)) := rfl
set_option maxRecDepth 100000 in
theorem zcd_30 : lw_tbl[(zmr.getD 30 (0, 0, 0, 0, 0)).2.1]? = some (.code (zy 30) (zbs 30) (znl 30) (zrt 30)) := rfl
set_option maxRecDepth 100000 in
theorem zcd_31 : lw_tbl[(zmr.getD 31 (0, 0, 0, 0, 0)).2.1]? = some (.code (zy 31) (zbs 31) (znl 31) (zrt 31)) := rfl
set_option maxRecDepth 100000 in
theorem zcd_32 : lw_tbl[(zmr.getD 32 (0, 0, 0, 0, 0)).2.1]? = some (.code (zy 32) (zbs 32) (znl 32) (zrt 32)) := rfl
set_option maxRecDepth 100000 in
theorem zcd_33 : lw_tbl[(zmr.getD 33 (0, 0, 0, 0, 0)).2.1]? = some (.code (zy 33) (zbs 33) (znl 33) (zrt 33)) := rfl
set_option maxRecDepth 100000 in
theorem zcd_34 : lw_tbl[(zmr.getD 34 (0, 0, 0, 0, 0)).2.1]? = some (.code (zy 34) (zbs 34) (znl 34) (zrt 34)) := rfl
set_option maxRecDepth 100000 in
theorem zcd_35 : lw_tbl[(zmr.getD 35 (0, 0, 0, 0, 0)).2.1]? = some (.code (zy 35) (zbs 35) (znl 35) (zrt 35)) := rfl
set_option maxRecDepth 100000 in
theorem zcd_36 : lw_tbl[(zmr.getD 36 (0, 0, 0, 0, 0)).2.1]? = some (.code (zy 36) (zbs 36) (znl 36) (zrt 36)) := rfl
set_option maxRecDepth 100000 in
theorem zcd_37 : lw_tbl[(zmr.getD 37 (0, 0, 0, 0, 0)).2.1]? = some (.code (zy 37) (zbs 37) (znl 37) (zrt 37)) := rfl
set_option maxRecDepth 100000 in
theorem zcd_38 : lw_tbl[(zmr.getD 38 (0, 0, 0, 0, 0)).2.1]? = some (.code (zy 38) (zbs 38) (znl 38) (zrt 38)) := rfl
set_option maxRecDepth 100000 in
theorem zcd_39 : lw_tbl[(zmr.getD 39 (0, 0, 0, 0, 0)).2.1]? = some (.code (zy 39) (zbs 39) (znl 39) (zrt 39)) := rfl
set_option maxRecDepth 100000 in
theorem zcd_40 : lw_tbl[(zmr.getD 40 (0, 0, 0, 0, 0)).2.1]? = some (.code (zy 40) (zbs 40) (znl 40) (zrt 40)) := rfl
set_option maxRecDepth 100000 in
theorem zcd_41 : lw_tbl[(zmr.getD 41 (0, 0, 0, 0, 0)).2.1]? = some (.code (zy 41) (zbs 41) (znl 41) (zrt 41)) := rfl
set_option maxRecDepth 100000 in
theorem zcd_42 : lw_tbl[(zmr.getD 42 (0, 0, 0, 0, 0)).2.1]? = some (.code (zy 42) (zbs 42) (znl 42) (zrt 42)) := rfl
set_option maxRecDepth 100000 in
theorem zcd_43 : lw_tbl[(zmr.getD 43 (0, 0, 0, 0, 0)).2.1]? = some (.code (zy 43) (zbs 43) (znl 43) (zrt 43)) := rfl
set_option maxRecDepth 100000 in
theorem zcd_44 : lw_tbl[(zmr.getD 44 (0, 0, 0, 0, 0)).2.1]? = some (.code (zy 44) (zbs 44) (znl 44) (zrt 44)) := rfl
set_option maxRecDepth 100000 in
theorem zcd_45 : lw_tbl[(zmr.getD 45 (0, 0, 0, 0, 0)).2.1]? = some (.code (zy 45) (zbs 45) (znl 45) (zrt 45)) := rfl
set_option maxRecDepth 100000 in
theorem zcd_46 : lw_tbl[(zmr.getD 46 (0, 0, 0, 0, 0)).2.1]? = some (.code (zy 46) (zbs 46) (znl 46) (zrt 46)) := rfl
set_option maxRecDepth 100000 in
theorem zcd_47 : lw_tbl[(zmr.getD 47 (0, 0, 0, 0, 0)).2.1]? = some (.code (zy 47) (zbs 47) (znl 47) (zrt 47)) := rfl
set_option maxRecDepth 100000 in
theorem zcd_48 : lw_tbl[(zmr.getD 48 (0, 0, 0, 0, 0)).2.1]? = some (.code (zy 48) (zbs 48) (znl 48) (zrt 48)) := rfl
set_option maxRecDepth 100000 in
theorem zcd_49 : lw_tbl[(zmr.getD 49 (0, 0, 0, 0, 0)).2.1]? = some (.code (zy 49) (zbs 49) (znl 49) (zrt 49)) := rfl
set_option maxRecDepth 100000 in
theorem zcd_50 : lw_tbl[(zmr.getD 50 (0, 0, 0, 0, 0)).2.1]? = some (.code (zy 50) (zbs 50) (znl 50) (zrt 50)) := rfl
set_option maxRecDepth 100000 in
theorem zcd_51 : lw_tbl[(zmr.getD 51 (0, 0, 0, 0, 0)).2.1]? = some (.code (zy 51) (zbs 51) (znl 51) (zrt 51)) := rfl
set_option maxRecDepth 100000 in
theorem zcd_52 : lw_tbl[(zmr.getD 52 (0, 0, 0, 0, 0)).2.1]? = some (.code (zy 52) (zbs 52) (znl 52) (zrt 52)) := rfl
set_option maxRecDepth 100000 in
theorem zcd_53 : lw_tbl[(zmr.getD 53 (0, 0, 0, 0, 0)).2.1]? = some (.code (zy 53) (zbs 53) (znl 53) (zrt 53)) := rfl
set_option maxRecDepth 100000 in
theorem zcd_54 : lw_tbl[(zmr.getD 54 (0, 0, 0, 0, 0)).2.1]? = some (.code (zy 54) (zbs 54) (znl 54) (zrt 54)) := rfl
set_option maxRecDepth 100000 in
theorem zcd_55 : lw_tbl[(zmr.getD 55 (0, 0, 0, 0, 0)).2.1]? = some (.code (zy 55) (zbs 55) (znl 55) (zrt 55)) := rfl
set_option maxRecDepth 100000 in
theorem zcd_56 : lw_tbl[(zmr.getD 56 (0, 0, 0, 0, 0)).2.1]? = some (.code (zy 56) (zbs 56) (znl 56) (zrt 56)) := rfl
set_option maxRecDepth 100000 in
theorem zcd_57 : lw_tbl[(zmr.getD 57 (0, 0, 0, 0, 0)).2.1]? = some (.code (zy 57) (zbs 57) (znl 57) (zrt 57)) := rfl
set_option maxRecDepth 100000 in
theorem zcd_58 : lw_tbl[(zmr.getD 58 (0, 0, 0, 0, 0)).2.1]? = some (.code (zy 58) (zbs 58) (znl 58) (zrt 58)) := rfl
set_option maxRecDepth 100000 in
theorem zcd_59 : lw_tbl[(zmr.getD 59 (0, 0, 0, 0, 0)).2.1]? = some (.code (zy 59) (zbs 59) (znl 59) (zrt 59)) := rfl
set_option maxRecDepth 100000 in
theorem zcd_60 : lw_tbl[(zmr.getD 60 (0, 0, 0, 0, 0)).2.1]? = some (.code (zy 60) (zbs 60) (znl 60) (zrt 60)) := rfl
set_option maxRecDepth 100000 in
theorem zcd_61 : lw_tbl[(zmr.getD 61 (0, 0, 0, 0, 0)).2.1]? = some (.code (zy 61) (zbs 61) (znl 61) (zrt 61)) := rfl
set_option maxRecDepth 100000 in
theorem zcd_62 : lw_tbl[(zmr.getD 62 (0, 0, 0, 0, 0)).2.1]? = some (.code (zy 62) (zbs 62) (znl 62) (zrt 62)) := rfl
set_option maxRecDepth 100000 in
theorem zcd_63 : lw_tbl[(zmr.getD 63 (0, 0, 0, 0, 0)).2.1]? = some (.code (zy 63) (zbs 63) (znl 63) (zrt 63)) := rfl
set_option maxRecDepth 100000 in
theorem zcd_64 : lw_tbl[(zmr.getD 64 (0, 0, 0, 0, 0)).2.1]? = some (.code (zy 64) (zbs 64) (znl 64) (zrt 64)) := rfl
set_option maxRecDepth 100000 in
theorem zcd_65 : lw_tbl[(zmr.getD 65 (0, 0, 0, 0, 0)).2.1]? = some (.code (zy 65) (zbs 65) (znl 65) (zrt 65)) := rfl
set_option maxRecDepth 100000 in
theorem zcd_66 : lw_tbl[(zmr.getD 66 (0, 0, 0, 0, 0)).2.1]? = some (.code (zy 66) (zbs 66) (znl 66) (zrt 66)) := rfl
set_option maxRecDepth 100000 in
theorem zcd_67 : lw_tbl[(zmr.getD 67 (0, 0, 0, 0, 0)).2.1]? = some (.code (zy 67) (zbs 67) (znl 67) (zrt 67)) := rfl
set_option maxRecDepth 100000 in
theorem zcd_68 : lw_tbl[(zmr.getD 68 (0, 0, 0, 0, 0)).2.1]? = some (.code (zy 68) (zbs 68) (znl 68) (zrt 68)) := rfl
set_option maxRecDepth 100000 in
theorem zcd_69 : lw_tbl[(zmr.getD 69 (0, 0, 0, 0, 0)).2.1]? = some (.code (zy 69) (zbs 69) (znl 69) (zrt 69)) := rfl
set_option maxRecDepth 100000 in
theorem zcd_70 : lw_tbl[(zmr.getD 70 (0, 0, 0, 0, 0)).2.1]? = some (.code (zy 70) (zbs 70) (znl 70) (zrt 70)) := rfl
set_option maxRecDepth 100000 in
theorem zcd_71 : lw_tbl[(zmr.getD 71 (0, 0, 0, 0, 0)).2.1]? = some (.code (zy 71) (zbs 71) (znl 71) (zrt 71)) := rfl
set_option maxRecDepth 100000 in
theorem zcd_72 : lw_tbl[(zmr.getD 72 (0, 0, 0, 0, 0)).2.1]? = some (.code (zy 72) (zbs 72) (znl 72) (zrt 72)) := rfl
set_option maxRecDepth 100000 in
theorem zcd_73 : lw_tbl[(zmr.getD 73 (0, 0, 0, 0, 0)).2.1]? = some (.code (zy 73) (zbs 73) (znl 73) (zrt 73)) := rfl
set_option maxRecDepth 100000 in
theorem zcd_74 : lw_tbl[(zmr.getD 74 (0, 0, 0, 0, 0)).2.1]? = some (.code (zy 74) (zbs 74) (znl 74) (zrt 74)) := rfl
set_option maxRecDepth 100000 in
theorem zcd_75 : lw_tbl[(zmr.getD 75 (0, 0, 0, 0, 0)).2.1]? = some (.code (zy 75) (zbs 75) (znl 75) (zrt 75)) := rfl
set_option maxRecDepth 100000 in
theorem zcd_76 : lw_tbl[(zmr.getD 76 (0, 0, 0, 0, 0)).2.1]? = some (.code (zy 76) (zbs 76) (znl 76) (zrt 76)) := rfl
set_option maxRecDepth 100000 in
theorem zcd_77 : lw_tbl[(zmr.getD 77 (0, 0, 0, 0, 0)).2.1]? = some (.code (zy 77) (zbs 77) (znl 77) (zrt 77)) := rfl
set_option maxRecDepth 100000 in
theorem zcd_78 : lw_tbl[(zmr.getD 78 (0, 0, 0, 0, 0)).2.1]? = some (.code (zy 78) (zbs 78) (znl 78) (zrt 78)) := rfl
set_option maxRecDepth 100000 in
theorem zcd_79 : lw_tbl[(zmr.getD 79 (0, 0, 0, 0, 0)).2.1]? = some (.code (zy 79) (zbs 79) (znl 79) (zrt 79)) := rfl
set_option maxRecDepth 100000 in
theorem zcd_80 : lw_tbl[(zmr.getD 80 (0, 0, 0, 0, 0)).2.1]? = some (.code (zy 80) (zbs 80) (znl 80) (zrt 80)) := rfl
set_option maxRecDepth 100000 in
theorem zcd_81 : lw_tbl[(zmr.getD 81 (0, 0, 0, 0, 0)).2.1]? = some (.code (zy 81) (zbs 81) (znl 81) (zrt 81)) := rfl
set_option maxRecDepth 100000 in
theorem zcd_82 : lw_tbl[(zmr.getD 82 (0, 0, 0, 0, 0)).2.1]? = some (.code (zy 82) (zbs 82) (znl 82) (zrt 82)) := rfl
set_option maxRecDepth 100000 in
theorem zcd_83 : lw_tbl[(zmr.getD 83 (0, 0, 0, 0, 0)).2.1]? = some (.code (zy 83) (zbs 83) (znl 83) (zrt 83)) := rfl
set_option maxRecDepth 100000 in
theorem zcd_84 : lw_tbl[(zmr.getD 84 (0, 0, 0, 0, 0)).2.1]? = some (.code (zy 84) (zbs 84) (znl 84) (zrt 84)) := rfl
set_option maxRecDepth 100000 in
theorem zcd_85 : lw_tbl[(zmr.getD 85 (0, 0, 0, 0, 0)).2.1]? = some (.code (zy 85) (zbs 85) (znl 85) (zrt 85)) := rfl
set_option maxRecDepth 100000 in
theorem zcd_86 : lw_tbl[(zmr.getD 86 (0, 0, 0, 0, 0)).2.1]? = some (.code (zy 86) (zbs 86) (znl 86) (zrt 86)) := rfl
set_option maxRecDepth 100000 in
theorem zcd_87 : lw_tbl[(zmr.getD 87 (0, 0, 0, 0, 0)).2.1]? = some (.code (zy 87) (zbs 87) (znl 87) (zrt 87)) := rfl
set_option maxRecDepth 100000 in
theorem zcd_88 : lw_tbl[(zmr.getD 88 (0, 0, 0, 0, 0)).2.1]? = some (.code (zy 88) (zbs 88) (znl 88) (zrt 88)) := rfl
set_option maxRecDepth 100000 in
theorem zcd_89 : lw_tbl[(zmr.getD 89 (0, 0, 0, 0, 0)).2.1]? = some (.code (zy 89) (zbs 89) (znl 89) (zrt 89)) := rfl
set_option maxRecDepth 100000 in
theorem zcd_90 : lw_tbl[(zmr.getD 90 (0, 0, 0, 0, 0)).2.1]? = some (.code (zy 90) (zbs 90) (znl 90) (zrt 90)) := rfl
set_option maxRecDepth 100000 in
theorem zcd_91 : lw_tbl[(zmr.getD 91 (0, 0, 0, 0, 0)).2.1]? = some (.code (zy 91) (zbs 91) (znl 91) (zrt 91)) := rfl
set_option maxRecDepth 100000 in
theorem zcd_92 : lw_tbl[(zmr.getD 92 (0, 0, 0, 0, 0)).2.1]? = some (.code (zy 92) (zbs 92) (znl 92) (zrt 92)) := rfl
set_option maxRecDepth 100000 in
theorem zcd_93 : lw_tbl[(zmr.getD 93 (0, 0, 0, 0, 0)).2.1]? = some (.code (zy 93) (zbs 93) (znl 93) (zrt 93)) := rfl
set_option maxRecDepth 100000 in
theorem zcd_94 : lw_tbl[(zmr.getD 94 (0, 0, 0, 0, 0)).2.1]? = some (.code (zy 94) (zbs 94) (znl 94) (zrt 94)) := rfl
set_option maxRecDepth 100000 in
theorem zcd_95 : lw_tbl[(zmr.getD 95 (0, 0, 0, 0, 0)).2.1]? = some (.code (zy 95) (zbs 95) (znl 95) (zrt 95)) := rfl
set_option maxRecDepth 100000 in
theorem zcd_96 : lw_tbl[(zmr.getD 96 (0, 0, 0, 0, 0)).2.1]? = some (.code (zy 96) (zbs 96) (znl 96) (zrt 96)) := rfl
set_option maxRecDepth 100000 in
theorem zcd_97 : lw_tbl[(zmr.getD 97 (0, 0, 0, 0, 0)).2.1]? = some (.code (zy 97) (zbs 97) (znl 97) (zrt 97)) := rfl
set_option maxRecDepth 100000 in
theorem zcd_98 : lw_tbl[(zmr.getD 98 (0, 0, 0, 0, 0)).2.1]? = some (.code (zy 98) (zbs 98) (znl 98) (zrt 98)) := rfl
set_option maxRecDepth 100000 in
theorem zcd_99 : lw_tbl[(zmr.getD 99 (0, 0, 0, 0, 0)).2.1]? = some (.code (zy 99) (zbs 99) (znl 99) (zrt 99)) := rfl
set_option maxRecDepth 100000 in
theorem zcd_100 : lw_tbl[(zmr.getD 100 (0, 0, 0, 0, 0)).2.1]? = some (.code (zy 100) (zbs 100) (znl 100) (zrt 100)) := rfl
set_option maxRecDepth 100000 in
theorem zcd_101 : lw_tbl[(zmr.getD 101 (0, 0, 0, 0, 0)).2.1]? = some (.code (zy 101) (zbs 101) (znl 101) (zrt 101)) := rfl
set_option maxRecDepth 100000 in
theorem zcd_102 : lw_tbl[(zmr.getD 102 (0, 0, 0, 0, 0)).2.1]? = some (.code (zy 102) (zbs 102) (znl 102) (zrt 102)) := rfl
set_option maxRecDepth 100000 in
theorem zcd_103 : lw_tbl[(zmr.getD 103 (0, 0, 0, 0, 0)).2.1]? = some (.code (zy 103) (zbs 103) (znl 103) (zrt 103)) := rfl
set_option maxRecDepth 100000 in
theorem zcd_104 : lw_tbl[(zmr.getD 104 (0, 0, 0, 0, 0)).2.1]? = some (.code (zy 104) (zbs 104) (znl 104) (zrt 104)) := rfl
set_option maxRecDepth 100000 in
theorem zcd_105 : lw_tbl[(zmr.getD 105 (0, 0, 0, 0, 0)).2.1]? = some (.code (zy 105) (zbs 105) (znl 105) (zrt 105)) := rfl
set_option maxRecDepth 100000 in
theorem zcd_106 : lw_tbl[(zmr.getD 106 (0, 0, 0, 0, 0)).2.1]? = some (.code (zy 106) (zbs 106) (znl 106) (zrt 106)) := rfl
set_option maxRecDepth 100000 in
theorem zcd_107 : lw_tbl[(zmr.getD 107 (0, 0, 0, 0, 0)).2.1]? = some (.code (zy 107) (zbs 107) (znl 107) (zrt 107)) := rfl
set_option maxRecDepth 100000 in
theorem zcd_108 : lw_tbl[(zmr.getD 108 (0, 0, 0, 0, 0)).2.1]? = some (.code (zy 108) (zbs 108) (znl 108) (zrt 108)) := rfl
set_option maxRecDepth 100000 in
theorem zcd_109 : lw_tbl[(zmr.getD 109 (0, 0, 0, 0, 0)).2.1]? = some (.code (zy 109) (zbs 109) (znl 109) (zrt 109)) := rfl
set_option maxRecDepth 100000 in
theorem zcd_110 : lw_tbl[(zmr.getD 110 (0, 0, 0, 0, 0)).2.1]? = some (.code (zy 110) (zbs 110) (znl 110) (zrt 110)) := rfl
set_option maxRecDepth 100000 in
theorem zcd_111 : lw_tbl[(zmr.getD 111 (0, 0, 0, 0, 0)).2.1]? = some (.code (zy 111) (zbs 111) (znl 111) (zrt 111)) := rfl
set_option maxRecDepth 100000 in
theorem zcd_112 : lw_tbl[(zmr.getD 112 (0, 0, 0, 0, 0)).2.1]? = some (.code (zy 112) (zbs 112) (znl 112) (zrt 112)) := rfl
set_option maxRecDepth 100000 in
theorem zcd_113 : lw_tbl[(zmr.getD 113 (0, 0, 0, 0, 0)).2.1]? = some (.code (zy 113) (zbs 113) (znl 113) (zrt 113)) := rfl
set_option maxRecDepth 100000 in
theorem zcd_114 : lw_tbl[(zmr.getD 114 (0, 0, 0, 0, 0)).2.1]? = some (.code (zy 114) (zbs 114) (znl 114) (zrt 114)) := rfl
set_option maxRecDepth 100000 in
theorem zcd_115 : lw_tbl[(zmr.getD 115 (0, 0, 0, 0, 0)).2.1]? = some (.code (zy 115) (zbs 115) (znl 115) (zrt 115)) := rfl
set_option maxRecDepth 100000 in
theorem zcd_116 : lw_tbl[(zmr.getD 116 (0, 0, 0, 0, 0)).2.1]? = some (.code (zy 116) (zbs 116) (znl 116) (zrt 116)) := rfl
set_option maxRecDepth 100000 in
theorem zcd_117 : lw_tbl[(zmr.getD 117 (0, 0, 0, 0, 0)).2.1]? = some (.code (zy 117) (zbs 117) (znl 117) (zrt 117)) := rfl
set_option maxRecDepth 100000 in
theorem zcd_118 : lw_tbl[(zmr.getD 118 (0, 0, 0, 0, 0)).2.1]? = some (.code (zy 118) (zbs 118) (znl 118) (zrt 118)) := rfl
set_option maxRecDepth 100000 in
theorem zcd_119 : lw_tbl[(zmr.getD 119 (0, 0, 0, 0, 0)).2.1]? = some (.code (zy 119) (zbs 119) (znl 119) (zrt 119)) := rfl
set_option maxRecDepth 100000 in
theorem zcd_120 : lw_tbl[(zmr.getD 120 (0, 0, 0, 0, 0)).2.1]? = some (.code (zy 120) (zbs 120) (znl 120) (zrt 120)) := rfl
set_option maxRecDepth 100000 in
theorem zcd_121 : lw_tbl[(zmr.getD 121 (0, 0, 0, 0, 0)).2.1]? = some (.code (zy 121) (zbs 121) (znl 121) (zrt 121)) := rfl
set_option maxRecDepth 100000 in
theorem zcd_122 : lw_tbl[(zmr.getD 122 (0, 0, 0, 0, 0)).2.1]? = some (.code (zy 122) (zbs 122) (znl 122) (zrt 122)) := rfl
set_option maxRecDepth 100000 in
theorem zcd_123 : lw_tbl[(zmr.getD 123 (0, 0, 0, 0, 0)).2.1]? = some (.code (zy 123) (zbs 123) (znl 123) (zrt 123)) := rfl
set_option maxRecDepth 100000 in
theorem zcd_124 : lw_tbl[(zmr.getD 124 (0, 0, 0, 0, 0)).2.1]? = some (.code (zy 124) (zbs 124) (znl 124) (zrt 124)) := rfl
set_option maxRecDepth 100000 in
theorem zcd_125 : lw_tbl[(zmr.getD 125 (0, 0, 0, 0, 0)).2.1]? = some (.code (zy 125) (zbs 125) (znl 125) (zrt 125)) := rfl
set_option maxRecDepth 100000 in
theorem zcd_126 : lw_tbl[(zmr.getD 126 (0, 0, 0, 0, 0)).2.1]? = some (.code (zy 126) (zbs 126) (znl 126) (zrt 126)) := rfl
set_option maxRecDepth 100000 in
theorem zcd_127 : lw_tbl[(zmr.getD 127 (0, 0, 0, 0, 0)).2.1]? = some (.code (zy 127) (zbs 127) (znl 127) (zrt 127)) := rfl
set_option maxRecDepth 100000 in
theorem zcd_128 : lw_tbl[(zmr.getD 128 (0, 0, 0, 0, 0)).2.1]? = some (.code (zy 128) (zbs 128) (znl 128) (zrt 128)) := rfl
set_option maxRecDepth 100000 in
theorem zcd_129 : lw_tbl[(zmr.getD 129 (0, 0, 0, 0, 0)).2.1]? = some (.code (zy 129) (zbs 129) (znl 129) (zrt 129)) := rfl
set_option maxRecDepth 100000 in
theorem zcd_130 : lw_tbl[(zmr.getD 130 (0, 0, 0, 0, 0)).2.1]? = some (.code (zy 130) (zbs 130) (znl 130) (zrt 130)) := rfl
set_option maxRecDepth 100000 in
theorem zcd_131 : lw_tbl[(zmr.getD 131 (0, 0, 0, 0, 0)).2.1]? = some (.code (zy 131) (zbs 131) (znl 131) (zrt 131)) := rfl
set_option maxRecDepth 100000 in
theorem zcd_132 : lw_tbl[(zmr.getD 132 (0, 0, 0, 0, 0)).2.1]? = some (.code (zy 132) (zbs 132) (znl 132) (zrt 132)) := rfl
set_option maxRecDepth 100000 in
theorem zcd_133 : lw_tbl[(zmr.getD 133 (0, 0, 0, 0, 0)).2.1]? = some (.code (zy 133) (zbs 133) (znl 133) (zrt 133)) := rfl
set_option maxRecDepth 100000 in
theorem zcd_134 : lw_tbl[(zmr.getD 134 (0, 0, 0, 0, 0)).2.1]? = some (.code (zy 134) (zbs 134) (znl 134) (zrt 134)) := rfl
set_option maxRecDepth 100000 in
theorem zcd_135 : lw_tbl[(zmr.getD 135 (0, 0, 0, 0, 0)).2.1]? = some (.code (zy 135) (zbs 135) (znl 135) (zrt 135)) := rfl
set_option maxRecDepth 100000 in
theorem zcd_136 : lw_tbl[(zmr.getD 136 (0, 0, 0, 0, 0)).2.1]? = some (.code (zy 136) (zbs 136) (znl 136) (zrt 136)) := rfl
set_option maxRecDepth 100000 in
theorem zcd_137 : lw_tbl[(zmr.getD 137 (0, 0, 0, 0, 0)).2.1]? = some (.code (zy 137) (zbs 137) (znl 137) (zrt 137)) := rfl
set_option maxRecDepth 100000 in
theorem zcd_138 : lw_tbl[(zmr.getD 138 (0, 0, 0, 0, 0)).2.1]? = some (.code (zy 138) (zbs 138) (znl 138) (zrt 138)) := rfl
set_option maxRecDepth 100000 in
theorem zcd_139 : lw_tbl[(zmr.getD 139 (0, 0, 0, 0, 0)).2.1]? = some (.code (zy 139) (zbs 139) (znl 139) (zrt 139)) := rfl
set_option maxRecDepth 100000 in
theorem zcd_140 : lw_tbl[(zmr.getD 140 (0, 0, 0, 0, 0)).2.1]? = some (.code (zy 140) (zbs 140) (znl 140) (zrt 140)) := rfl
set_option maxRecDepth 100000 in
theorem zcd_141 : lw_tbl[(zmr.getD 141 (0, 0, 0, 0, 0)).2.1]? = some (.code (zy 141) (zbs 141) (znl 141) (zrt 141)) := rfl
set_option maxRecDepth 100000 in
theorem zcd_142 : lw_tbl[(zmr.getD 142 (0, 0, 0, 0, 0)).2.1]? = some (.code (zy 142) (zbs 142) (znl 142) (zrt 142)) := rfl
set_option maxRecDepth 100000 in
theorem zcd_143 : lw_tbl[(zmr.getD 143 (0, 0, 0, 0, 0)).2.1]? = some (.code (zy 143) (zbs 143) (znl 143) (zrt 143)) := rfl
set_option maxRecDepth 100000 in
theorem zcd_144 : lw_tbl[(zmr.getD 144 (0, 0, 0, 0, 0)).2.1]? = some (.code (zy 144) (zbs 144) (znl 144) (zrt 144)) := rfl
set_option maxRecDepth 100000 in
theorem zcd_145 : lw_tbl[(zmr.getD 145 (0, 0, 0, 0, 0)).2.1]? = some (.code (zy 145) (zbs 145) (znl 145) (zrt 145)) := rfl
set_option maxRecDepth 100000 in
theorem zcd_146 : lw_tbl[(zmr.getD 146 (0, 0, 0, 0, 0)).2.1]? = some (.code (zy 146) (zbs 146) (znl 146) (zrt 146)) := rfl
set_option maxRecDepth 100000 in
theorem zcd_147 : lw_tbl[(zmr.getD 147 (0, 0, 0, 0, 0)).2.1]? = some (.code (zy 147) (zbs 147) (znl 147) (zrt 147)) := rfl
set_option maxRecDepth 100000 in
theorem zcd_148 : lw_tbl[(zmr.getD 148 (0, 0, 0, 0, 0)).2.1]? = some (.code (zy 148) (zbs 148) (znl 148) (zrt 148)) := rfl
set_option maxRecDepth 100000 in
theorem zcd_149 : lw_tbl[(zmr.getD 149 (0, 0, 0, 0, 0)).2.1]? = some (.code (zy 149) (zbs 149) (znl 149) (zrt 149)) := rfl
set_option maxRecDepth 100000 in
theorem zcd_150 : lw_tbl[(zmr.getD 150 (0, 0, 0, 0, 0)).2.1]? = some (.code (zy 150) (zbs 150) (znl 150) (zrt 150)) := rfl
set_option maxRecDepth 100000 in
theorem zcd_151 : lw_tbl[(zmr.getD 151 (0, 0, 0, 0, 0)).2.1]? = some (.code (zy 151) (zbs 151) (znl 151) (zrt 151)) := rfl
set_option maxRecDepth 100000 in
theorem zcd_152 : lw_tbl[(zmr.getD 152 (0, 0, 0, 0, 0)).2.1]? = some (.code (zy 152) (zbs 152) (znl 152) (zrt 152)) := rfl
set_option maxRecDepth 100000 in
theorem zcd_153 : lw_tbl[(zmr.getD 153 (0, 0, 0, 0, 0)).2.1]? = some (.code (zy 153) (zbs 153) (znl 153) (zrt 153)) := rfl
set_option maxRecDepth 100000 in
theorem zcd_154 : lw_tbl[(zmr.getD 154 (0, 0, 0, 0, 0)).2.1]? = some (.code (zy 154) (zbs 154) (znl 154) (zrt 154)) := rfl
set_option maxRecDepth 100000 in
theorem zcd_155 : lw_tbl[(zmr.getD 155 (0, 0, 0, 0, 0)).2.1]? = some (.code (zy 155) (zbs 155) (znl 155) (zrt 155)) := rfl
set_option maxRecDepth 100000 in
theorem zcd_156 : lw_tbl[(zmr.getD 156 (0, 0, 0, 0, 0)).2.1]? = some (.code (zy 156) (zbs 156) (znl 156) (zrt 156)) := rfl
set_option maxRecDepth 100000 in
theorem zcd_157 : lw_tbl[(zmr.getD 157 (0, 0, 0, 0, 0)).2.1]? = some (.code (zy 157) (zbs 157) (znl 157) (zrt 157)) := rfl
set_option maxRecDepth 100000 in
theorem zcd_158 : lw_tbl[(zmr.getD 158 (0, 0, 0, 0, 0)).2.1]? = some (.code (zy 158) (zbs 158) (znl 158) (zrt 158)) := rfl
set_option maxRecDepth 100000 in
theorem zcd_159 : lw_tbl[(zmr.getD 159 (0, 0, 0, 0, 0)).2.1]? = some (.code (zy 159) (zbs 159) (znl 159) (zrt 159)) := rfl
set_option maxRecDepth 100000 in
theorem zcd_160 : lw_tbl[(zmr.getD 160 (0, 0, 0, 0, 0)).2.1]? = some (.code (zy 160) (zbs 160) (znl 160) (zrt 160)) := rfl
set_option maxRecDepth 100000 in
theorem zcd_161 : lw_tbl[(zmr.getD 161 (0, 0, 0, 0, 0)).2.1]? = some (.code (zy 161) (zbs 161) (znl 161) (zrt 161)) := rfl
set_option maxRecDepth 100000 in
theorem zcd_162 : lw_tbl[(zmr.getD 162 (0, 0, 0, 0, 0)).2.1]? = some (.code (zy 162) (zbs 162) (znl 162) (zrt 162)) := rfl
set_option maxRecDepth 100000 in
theorem zcd_163 : lw_tbl[(zmr.getD 163 (0, 0, 0, 0, 0)).2.1]? = some (.code (zy 163) (zbs 163) (znl 163) (zrt 163)) := rfl
set_option maxRecDepth 100000 in
theorem zcd_164 : lw_tbl[(zmr.getD 164 (0, 0, 0, 0, 0)).2.1]? = some (.code (zy 164) (zbs 164) (znl 164) (zrt 164)) := rfl
set_option maxRecDepth 100000 in
theorem zcd_165 : lw_tbl[(zmr.getD 165 (0, 0, 0, 0, 0)).2.1]? = some (.code (zy 165) (zbs 165) (znl 165) (zrt 165)) := rfl
set_option maxRecDepth 100000 in
theorem zcd_166 : lw_tbl[(zmr.getD 166 (0, 0, 0, 0, 0)).2.1]? = some (.code (zy 166) (zbs 166) (znl 166) (zrt 166)) := rfl
set_option maxRecDepth 100000 in
theorem zcd_167 : lw_tbl[(zmr.getD 167 (0, 0, 0, 0, 0)).2.1]? = some (.code (zy 167) (zbs 167) (znl 167) (zrt 167)) := rfl
set_option maxRecDepth 100000 in
theorem zcd_168 : lw_tbl[(zmr.getD 168 (0, 0, 0, 0, 0)).2.1]? = some (.code (zy 168) (zbs 168) (znl 168) (zrt 168)) := rfl
set_option maxRecDepth 100000 in
theorem zcd_169 : lw_tbl[(zmr.getD 169 (0, 0, 0, 0, 0)).2.1]? = some (.code (zy 169) (zbs 169) (znl 169) (zrt 169)) := rfl
set_option maxRecDepth 100000 in
theorem zcd_170 : lw_tbl[(zmr.getD 170 (0, 0, 0, 0, 0)).2.1]? = some (.code (zy 170) (zbs 170) (znl 170) (zrt 170)) := rfl
set_option maxRecDepth 100000 in
theorem zcd_171 : lw_tbl[(zmr.getD 171 (0, 0, 0, 0, 0)).2.1]? = some (.code (zy 171) (zbs 171) (znl 171) (zrt 171)) := rfl
set_option maxRecDepth 100000 in
theorem zcd_172 : lw_tbl[(zmr.getD 172 (0, 0, 0, 0, 0)).2.1]? = some (.code (zy 172) (zbs 172) (znl 172) (zrt 172)) := rfl
set_option maxRecDepth 100000 in
theorem zcd_173 : lw_tbl[(zmr.getD 173 (0, 0, 0, 0, 0)).2.1]? = some (.code (zy 173) (zbs 173) (znl 173) (zrt 173)) := rfl
set_option maxRecDepth 100000 in
theorem zcd_174 : lw_tbl[(zmr.getD 174 (0, 0, 0, 0, 0)).2.1]? = some (.code (zy 174) (zbs 174) (znl 174) (zrt 174)) := rfl
set_option maxRecDepth 100000 in
theorem zcd_175 : lw_tbl[(zmr.getD 175 (0, 0, 0, 0, 0)).2.1]? = some (.code (zy 175) (zbs 175) (znl 175) (zrt 175)) := rfl
set_option maxRecDepth 100000 in
theorem zcd_176 : lw_tbl[(zmr.getD 176 (0, 0, 0, 0, 0)).2.1]? = some (.code (zy 176) (zbs 176) (znl 176) (zrt 176)) := rfl
set_option maxRecDepth 100000 in
theorem zcd_177 : lw_tbl[(zmr.getD 177 (0, 0, 0, 0, 0)).2.1]? = some (.code (zy 177) (zbs 177) (znl 177) (zrt 177)) := rfl
set_option maxRecDepth 100000 in
theorem zcd_178 : lw_tbl[(zmr.getD 178 (0, 0, 0, 0, 0)).2.1]? = some (.code (zy 178) (zbs 178) (znl 178) (zrt 178)) := rfl
set_option maxRecDepth 100000 in
theorem zcd_179 : lw_tbl[(zmr.getD 179 (0, 0, 0, 0, 0)).2.1]? = some (.code (zy 179) (zbs 179) (znl 179) (zrt 179)) := rfl
set_option maxRecDepth 100000 in
theorem zcd_180 : lw_tbl[(zmr.getD 180 (0, 0, 0, 0, 0)).2.1]? = some (.code (zy 180) (zbs 180) (znl 180) (zrt 180)) := rfl
set_option maxRecDepth 100000 in
theorem zcd_181 : lw_tbl[(zmr.getD 181 (0, 0, 0, 0, 0)).2.1]? = some (.code (zy 181) (zbs 181) (znl 181) (zrt 181)) := rfl
set_option maxRecDepth 100000 in
theorem zcd_182 : lw_tbl[(zmr.getD 182 (0, 0, 0, 0, 0)).2.1]? = some (.code (zy 182) (zbs 182) (znl 182) (zrt 182)) := rfl
set_option maxRecDepth 100000 in
theorem zcd_183 : lw_tbl[(zmr.getD 183 (0, 0, 0, 0, 0)).2.1]? = some (.code (zy 183) (zbs 183) (znl 183) (zrt 183)) := rfl
set_option maxRecDepth 100000 in
theorem zcd_184 : lw_tbl[(zmr.getD 184 (0, 0, 0, 0, 0)).2.1]? = some (.code (zy 184) (zbs 184) (znl 184) (zrt 184)) := rfl
set_option maxRecDepth 100000 in
theorem zcd_185 : lw_tbl[(zmr.getD 185 (0, 0, 0, 0, 0)).2.1]? = some (.code (zy 185) (zbs 185) (znl 185) (zrt 185)) := rfl
set_option maxRecDepth 100000 in
theorem zcd_186 : lw_tbl[(zmr.getD 186 (0, 0, 0, 0, 0)).2.1]? = some (.code (zy 186) (zbs 186) (znl 186) (zrt 186)) := rfl
set_option maxRecDepth 100000 in
theorem zcd_187 : lw_tbl[(zmr.getD 187 (0, 0, 0, 0, 0)).2.1]? = some (.code (zy 187) (zbs 187) (znl 187) (zrt 187)) := rfl
set_option maxRecDepth 100000 in
theorem zcd_188 : lw_tbl[(zmr.getD 188 (0, 0, 0, 0, 0)).2.1]? = some (.code (zy 188) (zbs 188) (znl 188) (zrt 188)) := rfl
set_option maxRecDepth 100000 in
theorem zcd_189 : lw_tbl[(zmr.getD 189 (0, 0, 0, 0, 0)).2.1]? = some (.code (zy 189) (zbs 189) (znl 189) (zrt 189)) := rfl
set_option maxRecDepth 100000 in
theorem zcd_190 : lw_tbl[(zmr.getD 190 (0, 0, 0, 0, 0)).2.1]? = some (.code (zy 190) (zbs 190) (znl 190) (zrt 190)) := rfl
set_option maxRecDepth 100000 in
theorem zcd_191 : lw_tbl[(zmr.getD 191 (0, 0, 0, 0, 0)).2.1]? = some (.code (zy 191) (zbs 191) (znl 191) (zrt 191)) := rfl
set_option maxRecDepth 100000 in
theorem zcd_192 : lw_tbl[(zmr.getD 192 (0, 0, 0, 0, 0)).2.1]? = some (.code (zy 192) (zbs 192) (znl 192) (zrt 192)) := rfl
set_option maxRecDepth 100000 in
theorem zcd_193 : lw_tbl[(zmr.getD 193 (0, 0, 0, 0, 0)).2.1]? = some (.code (zy 193) (zbs 193) (znl 193) (zrt 193)) := rfl
set_option maxRecDepth 100000 in
theorem zcd_194 : lw_tbl[(zmr.getD 194 (0, 0, 0, 0, 0)).2.1]? = some (.code (zy 194) (zbs 194) (znl 194) (zrt 194)) := rfl
set_option maxRecDepth 100000 in
theorem zcd_195 : lw_tbl[(zmr.getD 195 (0, 0, 0, 0, 0)).2.1]? = some (.code (zy 195) (zbs 195) (znl 195) (zrt 195)) := rfl
set_option maxRecDepth 100000 in
theorem zcd_196 : lw_tbl[(zmr.getD 196 (0, 0, 0, 0, 0)).2.1]? = some (.code (zy 196) (zbs 196) (znl 196) (zrt 196)) := rfl
set_option maxRecDepth 100000 in
theorem zcd_197 : lw_tbl[(zmr.getD 197 (0, 0, 0, 0, 0)).2.1]? = some (.code (zy 197) (zbs 197) (znl 197) (zrt 197)) := rfl
set_option maxRecDepth 100000 in
theorem zcd_198 : lw_tbl[(zmr.getD 198 (0, 0, 0, 0, 0)).2.1]? = some (.code (zy 198) (zbs 198) (znl 198) (zrt 198)) := rfl
set_option maxRecDepth 100000 in
theorem zcd_199 : lw_tbl[(zmr.getD 199 (0, 0, 0, 0, 0)).2.1]? = some (.code (zy 199) (zbs 199) (znl 199) (zrt 199)) := rfl
set_option maxRecDepth 100000 in
theorem zcd_200 : lw_tbl[(zmr.getD 200 (0, 0, 0, 0, 0)).2.1]? = some (.code (zy 200) (zbs 200) (znl 200) (zrt 200)) := rfl
set_option maxRecDepth 100000 in
theorem zcd_201 : lw_tbl[(zmr.getD 201 (0, 0, 0, 0, 0)).2.1]? = some (.code (zy 201) (zbs 201) (znl 201) (zrt 201)) := rfl
set_option maxRecDepth 100000 in
theorem zcd_202 : lw_tbl[(zmr.getD 202 (0, 0, 0, 0, 0)).2.1]? = some (.code (zy 202) (zbs 202) (znl 202) (zrt 202)) := rfl
set_option maxRecDepth 100000 in
theorem zcd_203 : lw_tbl[(zmr.getD 203 (0, 0, 0, 0, 0)).2.1]? = some (.code (zy 203) (zbs 203) (znl 203) (zrt 203)) := rfl
set_option maxRecDepth 100000 in
theorem zcd_204 : lw_tbl[(zmr.getD 204 (0, 0, 0, 0, 0)).2.1]? = some (.code (zy 204) (zbs 204) (znl 204) (zrt 204)) := rfl
set_option maxRecDepth 100000 in
theorem zcd_205 : lw_tbl[(zmr.getD 205 (0, 0, 0, 0, 0)).2.1]? = some (.code (zy 205) (zbs 205) (znl 205) (zrt 205)) := rfl
set_option maxRecDepth 100000 in
theorem zcd_206 : lw_tbl[(zmr.getD 206 (0, 0, 0, 0, 0)).2.1]? = some (.code (zy 206) (zbs 206) (znl 206) (zrt 206)) := rfl
set_option maxRecDepth 100000 in
theorem zcd_207 : lw_tbl[(zmr.getD 207 (0, 0, 0, 0, 0)).2.1]? = some (.code (zy 207) (zbs 207) (znl 207) (zrt 207)) := rfl
set_option maxRecDepth 100000 in
theorem zcd_208 : lw_tbl[(zmr.getD 208 (0, 0, 0, 0, 0)).2.1]? = some (.code (zy 208) (zbs 208) (znl 208) (zrt 208)) := rfl
set_option maxRecDepth 100000 in
theorem zcd_209 : lw_tbl[(zmr.getD 209 (0, 0, 0, 0, 0)).2.1]? = some (.code (zy 209) (zbs 209) (znl 209) (zrt 209)) := rfl
set_option maxRecDepth 100000 in
theorem zcd_210 : lw_tbl[(zmr.getD 210 (0, 0, 0, 0, 0)).2.1]? = some (.code (zy 210) (zbs 210) (znl 210) (zrt 210)) := rfl
set_option maxRecDepth 100000 in
theorem zcd_211 : lw_tbl[(zmr.getD 211 (0, 0, 0, 0, 0)).2.1]? = some (.code (zy 211) (zbs 211) (znl 211) (zrt 211)) := rfl
set_option maxRecDepth 100000 in
theorem zcd_212 : lw_tbl[(zmr.getD 212 (0, 0, 0, 0, 0)).2.1]? = some (.code (zy 212) (zbs 212) (znl 212) (zrt 212)) := rfl
set_option maxRecDepth 100000 in
theorem zcd_213 : lw_tbl[(zmr.getD 213 (0, 0, 0, 0, 0)).2.1]? = some (.code (zy 213) (zbs 213) (znl 213) (zrt 213)) := rfl
set_option maxRecDepth 100000 in
theorem zcd_214 : lw_tbl[(zmr.getD 214 (0, 0, 0, 0, 0)).2.1]? = some (.code (zy 214) (zbs 214) (znl 214) (zrt 214)) := rfl
set_option maxRecDepth 100000 in
theorem zcd_215 : lw_tbl[(zmr.getD 215 (0, 0, 0, 0, 0)).2.1]? = some (.code (zy 215) (zbs 215) (znl 215) (zrt 215)) := rfl
set_option maxRecDepth 100000 in
theorem zcd_216 : lw_tbl[(zmr.getD 216 (0, 0, 0, 0, 0)).2.1]? = some (.code (zy 216) (zbs 216) (znl 216) (zrt 216)) := rfl
set_option maxRecDepth 100000 in
theorem zcd_217 : lw_tbl[(zmr.getD 217 (0, 0, 0, 0, 0)).2.1]? = some (.code (zy 217) (zbs 217) (znl 217) (zrt 217)) := rfl
set_option maxRecDepth 100000 in
theorem zcd_218 : lw_tbl[(zmr.getD 218 (0, 0, 0, 0, 0)).2.1]? = some (.code (zy 218) (zbs 218) (znl 218) (zrt 218)) := rfl
set_option maxRecDepth 100000 in
theorem zcd_219 : lw_tbl[(zmr.getD 219 (0, 0, 0, 0, 0)).2.1]? = some (.code (zy 219) (zbs 219) (znl 219) (zrt 219)) := rfl
set_option maxRecDepth 100000 in
theorem zcd_220 : lw_tbl[(zmr.getD 220 (0, 0, 0, 0, 0)).2.1]? = some (.code (zy 220) (zbs 220) (znl 220) (zrt 220)) := rfl
set_option maxRecDepth 100000 in
theorem zcd_221 : lw_tbl[(zmr.getD 221 (0, 0, 0, 0, 0)).2.1]? = some (.code (zy 221) (zbs 221) (znl 221) (zrt 221)) := rfl
set_option maxRecDepth 100000 in
theorem zcd_222 : lw_tbl[(zmr.getD 222 (0, 0, 0, 0, 0)).2.1]? = some (.code (zy 222) (zbs 222) (znl 222) (zrt 222)) := rfl
set_option maxRecDepth 100000 in
theorem zcd_223 : lw_tbl[(zmr.getD 223 (0, 0, 0, 0, 0)).2.1]? = some (.code (zy 223) (zbs 223) (znl 223) (zrt 223)) := rfl
set_option maxRecDepth 100000 in
theorem zcd_224 : lw_tbl[(zmr.getD 224 (0, 0, 0, 0, 0)).2.1]? = some (.code (zy 224) (zbs 224) (znl 224) (zrt 224)) := rfl
set_option maxRecDepth 100000 in
theorem zcd_225 : lw_tbl[(zmr.getD 225 (0, 0, 0, 0, 0)).2.1]? = some (.code (zy 225) (zbs 225) (znl 225) (zrt 225)) := rfl
set_option maxRecDepth 100000 in
theorem zcd_226 : lw_tbl[(zmr.getD 226 (0, 0, 0, 0, 0)).2.1]? = some (.code (zy 226) (zbs 226) (znl 226) (zrt 226)) := rfl
set_option maxRecDepth 100000 in
theorem zcd_227 : lw_tbl[(zmr.getD 227 (0, 0, 0, 0, 0)).2.1]? = some (.code (zy 227) (zbs 227) (znl 227) (zrt 227)) := rfl
set_option maxRecDepth 100000 in
theorem zcd_228 : lw_tbl[(zmr.getD 228 (0, 0, 0, 0, 0)).2.1]? = some (.code (zy 228) (zbs 228) (znl 228) (zrt 228)) := rfl
set_option maxRecDepth 100000 in
theorem zcd_229 : lw_tbl[(zmr.getD 229 (0, 0, 0, 0, 0)).2.1]? = some (.code (zy 229) (zbs 229) (znl 229) (zrt 229)) := rfl
set_option maxRecDepth 100000 in
theorem zcd_230 : lw_tbl[(zmr.getD 230 (0, 0, 0, 0, 0)).2.1]? = some (.code (zy 230) (zbs 230) (znl 230) (zrt 230)) := rfl
set_option maxRecDepth 100000 in
theorem zcd_231 : lw_tbl[(zmr.getD 231 (0, 0, 0, 0, 0)).2.1]? = some (.code (zy 231) (zbs 231) (znl 231) (zrt 231)) := rfl
set_option maxRecDepth 100000 in
theorem zcd_232 : lw_tbl[(zmr.getD 232 (0, 0, 0, 0, 0)).2.1]? = some (.code (zy 232) (zbs 232) (znl 232) (zrt 232)) := rfl
set_option maxRecDepth 100000 in
theorem zcd_233 : lw_tbl[(zmr.getD 233 (0, 0, 0, 0, 0)).2.1]? = some (.code (zy 233) (zbs 233) (znl 233) (zrt 233)) := rfl
set_option maxRecDepth 100000 in
theorem zcd_234 : lw_tbl[(zmr.getD 234 (0, 0, 0, 0, 0)).2.1]? = some (.code (zy 234) (zbs 234) (znl 234) (zrt 234)) := rfl
set_option maxRecDepth 100000 in
theorem zcd_235 : lw_tbl[(zmr.getD 235 (0, 0, 0, 0, 0)).2.1]? = some (.code (zy 235) (zbs 235) (znl 235) (zrt 235)) := rfl
set_option maxRecDepth 100000 in
theorem zcd_236 : lw_tbl[(zmr.getD 236 (0, 0, 0, 0, 0)).2.1]? = some (.code (zy 236) (zbs 236) (znl 236) (zrt 236)) := rfl
set_option maxRecDepth 100000 in
theorem zcd_237 : lw_tbl[(zmr.getD 237 (0, 0, 0, 0, 0)).2.1]? = some (.code (zy 237) (zbs 237) (znl 237) (zrt 237)) := rfl
set_option maxRecDepth 100000 in
theorem zcd_238 : lw_tbl[(zmr.getD 238 (0, 0, 0, 0, 0)).2.1]? = some (.code (zy 238) (zbs 238) (znl 238) (zrt 238)) := rfl
set_option maxRecDepth 100000 in
theorem zcd_239 : lw_tbl[(zmr.getD 239 (0, 0, 0, 0, 0)).2.1]? = some (.code (zy 239) (zbs 239) (znl 239) (zrt 239)) := rfl
set_option maxRecDepth 100000 in
theorem zcd_240 : lw_tbl[(zmr.getD 240 (0, 0, 0, 0, 0)).2.1]? = some (.code (zy 240) (zbs 240) (znl 240) (zrt 240)) := rfl
set_option maxRecDepth 100000 in
theorem zcd_241 : lw_tbl[(zmr.getD 241 (0, 0, 0, 0, 0)).2.1]? = some (.code (zy 241) (zbs 241) (znl 241) (zrt 241)) := rfl
set_option maxRecDepth 100000 in
theorem zcd_242 : lw_tbl[(zmr.getD 242 (0, 0, 0, 0, 0)).2.1]? = some (.code (zy 242) (zbs 242) (znl 242) (zrt 242)) := rfl
set_option maxRecDepth 100000 in
theorem zcd_243 : lw_tbl[(zmr.getD 243 (0, 0, 0, 0, 0)).2.1]? = some (.code (zy 243) (zbs 243) (znl 243) (zrt 243)) := rfl
set_option maxRecDepth 100000 in
theorem zcd_244 : lw_tbl[(zmr.getD 244 (0, 0, 0, 0, 0)).2.1]? = some (.code (zy 244) (zbs 244) (znl 244) (zrt 244)) := rfl
set_option maxRecDepth 100000 in
theorem zcd_245 : lw_tbl[(zmr.getD 245 (0, 0, 0, 0, 0)).2.1]? = some (.code (zy 245) (zbs 245) (znl 245) (zrt 245)) := rfl
set_option maxRecDepth 100000 in
theorem zcd_246 : lw_tbl[(zmr.getD 246 (0, 0, 0, 0, 0)).2.1]? = some (.code (zy 246) (zbs 246) (znl 246) (zrt 246)) := rfl
set_option maxRecDepth 100000 in
theorem zcd_247 : lw_tbl[(zmr.getD 247 (0, 0, 0, 0, 0)).2.1]? = some (.code (zy 247) (zbs 247) (znl 247) (zrt 247)) := rfl
set_option maxRecDepth 100000 in
theorem zcd_248 : lw_tbl[(zmr.getD 248 (0, 0, 0, 0, 0)).2.1]? = some (.code (zy 248) (zbs 248) (znl 248) (zrt 248)) := rfl
set_option maxRecDepth 100000 in
theorem zcd_249 : lw_tbl[(zmr.getD 249 (0, 0, 0, 0, 0)).2.1]? = some (.code (zy 249) (zbs 249) (znl 249) (zrt 249)) := rfl
set_option maxRecDepth 100000 in
theorem zcd_250 : lw_tbl[(zmr.getD 250 (0, 0, 0, 0, 0)).2.1]? = some (.code (zy 250) (zbs 250) (znl 250) (zrt 250)) := rfl
set_option maxRecDepth 100000 in
theorem zcd_251 : lw_tbl[(zmr.getD 251 (0, 0, 0, 0, 0)).2.1]? = some (.code (zy 251) (zbs 251) (znl 251) (zrt 251)) := rfl
set_option maxRecDepth 100000 in
theorem zcd_252 : lw_tbl[(zmr.getD 252 (0, 0, 0, 0, 0)).2.1]? = some (.code (zy 252) (zbs 252) (znl 252) (zrt 252)) := rfl
set_option maxRecDepth 100000 in
theorem zcd_253 : lw_tbl[(zmr.getD 253 (0, 0, 0, 0, 0)).2.1]? = some (.code (zy 253) (zbs 253) (znl 253) (zrt 253)) := rfl
set_option maxRecDepth 100000 in
theorem zcd_254 : lw_tbl[(zmr.getD 254 (0, 0, 0, 0, 0)).2.1]? = some (.code (zy 254) (zbs 254) (znl 254) (zrt 254)) := rfl
set_option maxRecDepth 100000 in
theorem zcd_255 : lw_tbl[(zmr.getD 255 (0, 0, 0, 0, 0)).2.1]? = some (.code (zy 255) (zbs 255) (znl 255) (zrt 255)) := rfl
set_option maxRecDepth 100000 in
theorem zcd_256 : lw_tbl[(zmr.getD 256 (0, 0, 0, 0, 0)).2.1]? = some (.code (zy 256) (zbs 256) (znl 256) (zrt 256)) := rfl
set_option maxRecDepth 100000 in
theorem zcd_257 : lw_tbl[(zmr.getD 257 (0, 0, 0, 0, 0)).2.1]? = some (.code (zy 257) (zbs 257) (znl 257) (zrt 257)) := rfl
set_option maxRecDepth 100000 in
theorem zcd_258 : lw_tbl[(zmr.getD 258 (0, 0, 0, 0, 0)).2.1]? = some (.code (zy 258) (zbs 258) (znl 258) (zrt 258)) := rfl
set_option maxRecDepth 100000 in
theorem zcd_259 : lw_tbl[(zmr.getD 259 (0, 0, 0, 0, 0)).2.1]? = some (.code (zy 259) (zbs 259) (znl 259) (zrt 259)) := rfl
set_option maxRecDepth 100000 in
theorem zcd_260 : lw_tbl[(zmr.getD 260 (0, 0, 0, 0, 0)).2.1]? = some (.code (zy 260) (zbs 260) (znl 260) (zrt 260)) := rfl
set_option maxRecDepth 100000 in
theorem zcd_261 : lw_tbl[(zmr.getD 261 (0, 0, 0, 0, 0)).2.1]? = some (.code (zy 261) (zbs 261) (znl 261) (zrt 261)) := rfl
set_option maxRecDepth 100000 in
theorem zcd_262 : lw_tbl[(zmr.getD 262 (0, 0, 0, 0, 0)).2.1]? = some (.code (zy 262) (zbs 262) (znl 262) (zrt 262)) := rfl
set_option maxRecDepth 100000 in
theorem zcd_263 : lw_tbl[(zmr.getD 263 (0, 0, 0, 0, 0)).2.1]? = some (.code (zy 263) (zbs 263) (znl 263) (zrt 263)) := rfl
set_option maxRecDepth 100000 in
theorem zcd_264 : lw_tbl[(zmr.getD 264 (0, 0, 0, 0, 0)).2.1]? = some (.code (zy 264) (zbs 264) (znl 264) (zrt 264)) := rfl
set_option maxRecDepth 100000 in
theorem zcd_265 : lw_tbl[(zmr.getD 265 (0, 0, 0, 0, 0)).2.1]? = some (.code (zy 265) (zbs 265) (znl 265) (zrt 265)) := rfl
set_option maxRecDepth 100000 in
theorem zcd_266 : lw_tbl[(zmr.getD 266 (0, 0, 0, 0, 0)).2.1]? = some (.code (zy 266) (zbs 266) (znl 266) (zrt 266)) := rfl
set_option maxRecDepth 100000 in
theorem zcd_267 : lw_tbl[(zmr.getD 267 (0, 0, 0, 0, 0)).2.1]? = some (.code (zy 267) (zbs 267) (znl 267) (zrt 267)) := rfl
set_option maxRecDepth 100000 in
theorem zcd_268 : lw_tbl[(zmr.getD 268 (0, 0, 0, 0, 0)).2.1]? = some (.code (zy 268) (zbs 268) (znl 268) (zrt 268)) := rfl
set_option maxRecDepth 100000 in
theorem zcd_269 : lw_tbl[(zmr.getD 269 (0, 0, 0, 0, 0)).2.1]? = some (.code (zy 269) (zbs 269) (znl 269) (zrt 269)) := rfl
set_option maxRecDepth 100000 in
theorem zcd_270 : lw_tbl[(zmr.getD 270 (0, 0, 0, 0, 0)).2.1]? = some (.code (zy 270) (zbs 270) (znl 270) (zrt 270)) := rfl
set_option maxRecDepth 100000 in
theorem zcd_271 : lw_tbl[(zmr.getD 271 (0, 0, 0, 0, 0)).2.1]? = some (.code (zy 271) (zbs 271) (znl 271) (zrt 271)) := rfl
set_option maxRecDepth 100000 in
theorem zcd_272 : lw_tbl[(zmr.getD 272 (0, 0, 0, 0, 0)).2.1]? = some (.code (zy 272) (zbs 272) (znl 272) (zrt 272)) := rfl
set_option maxRecDepth 100000 in
theorem zcd_273 : lw_tbl[(zmr.getD 273 (0, 0, 0, 0, 0)).2.1]? = some (.code (zy 273) (zbs 273) (znl 273) (zrt 273)) := rfl
set_option maxRecDepth 100000 in
theorem zcd_274 : lw_tbl[(zmr.getD 274 (0, 0, 0, 0, 0)).2.1]? = some (.code (zy 274) (zbs 274) (znl 274) (zrt 274)) := rfl
set_option maxRecDepth 100000 in
theorem zcd_275 : lw_tbl[(zmr.getD 275 (0, 0, 0, 0, 0)).2.1]? = some (.code (zy 275) (zbs 275) (znl 275) (zrt 275)) := rfl
set_option maxRecDepth 100000 in
theorem zcd_276 : lw_tbl[(zmr.getD 276 (0, 0, 0, 0, 0)).2.1]? = some (.code (zy 276) (zbs 276) (znl 276) (zrt 276)) := rfl
set_option maxRecDepth 100000 in
theorem zcd_277 : lw_tbl[(zmr.getD 277 (0, 0, 0, 0, 0)).2.1]? = some (.code (zy 277) (zbs 277) (znl 277) (zrt 277)) := rfl
set_option maxRecDepth 100000 in
theorem zcd_278 : lw_tbl[(zmr.getD 278 (0, 0, 0, 0, 0)).2.1]? = some (.code (zy 278) (zbs 278) (znl 278) (zrt 278)) := rfl
set_option maxRecDepth 100000 in
theorem zcd_279 : lw_tbl[(zmr.getD 279 (0, 0, 0, 0, 0)).2.1]? = some (.code (zy 279) (zbs 279) (znl 279) (zrt 279)) := rfl
set_option maxRecDepth 100000 in
theorem zcd_280 : lw_tbl[(zmr.getD 280 (0, 0, 0, 0, 0)).2.1]? = some (.code (zy 280) (zbs 280) (znl 280) (zrt 280)) := rfl
set_option maxRecDepth 100000 in
theorem zcd_281 : lw_tbl[(zmr.getD 281 (0, 0, 0, 0, 0)).2.1]? = some (.code (zy 281) (zbs 281) (znl 281) (zrt 281)) := rfl
set_option maxRecDepth 100000 in
theorem zcd_282 : lw_tbl[(zmr.getD 282 (0, 0, 0, 0, 0)).2.1]? = some (.code (zy 282) (zbs 282) (znl 282) (zrt 282)) := rfl
theorem zca_1 : ∀ a, a < 1 → lw_tbl[(zmr.getD a (0, 0, 0, 0, 0)).2.1]? = some (.code (zy a) (zbs a) (znl a) (zrt a)) := lt_s lt_0 zcd_0
theorem zca_2 : ∀ a, a < 2 → lw_tbl[(zmr.getD a (0, 0, 0, 0, 0)).2.1]? = some (.code (zy a) (zbs a) (znl a) (zrt a)) := lt_s zca_1 zcd_1
theorem zca_3 : ∀ a, a < 3 → lw_tbl[(zmr.getD a (0, 0, 0, 0, 0)).2.1]? = some (.code (zy a) (zbs a) (znl a) (zrt a)) := lt_s zca_2 zcd_2
theorem zca_4 : ∀ a, a < 4 → lw_tbl[(zmr.getD a (0, 0, 0, 0, 0)).2.1]? = some (.code (zy a) (zbs a) (znl a) (zrt a)) := lt_s zca_3 zcd_3
theorem zca_5 : ∀ a, a < 5 → lw_tbl[(zmr.getD a (0, 0, 0, 0, 0)).2.1]? = some (.code (zy a) (zbs a) (znl a) (zrt a)) := lt_s zca_4 zcd_4
theorem zca_6 : ∀ a, a < 6 → lw_tbl[(zmr.getD a (0, 0, 0, 0, 0)).2.1]? = some (.code (zy a) (zbs a) (znl a) (zrt a)) := lt_s zca_5 zcd_5
theorem zca_7 : ∀ a, a < 7 → lw_tbl[(zmr.getD a (0, 0, 0, 0, 0)).2.1]? = some (.code (zy a) (zbs a) (znl a) (zrt a)) := lt_s zca_6 zcd_6
theorem zca_8 : ∀ a, a < 8 → lw_tbl[(zmr.getD a (0, 0, 0, 0, 0)).2.1]? = some (.code (zy a) (zbs a) (znl a) (zrt a)) := lt_s zca_7 zcd_7
theorem zca_9 : ∀ a, a < 9 → lw_tbl[(zmr.getD a (0, 0, 0, 0, 0)).2.1]? = some (.code (zy a) (zbs a) (znl a) (zrt a)) := lt_s zca_8 zcd_8
theorem zca_10 : ∀ a, a < 10 → lw_tbl[(zmr.getD a (0, 0, 0, 0, 0)).2.1]? = some (.code (zy a) (zbs a) (znl a) (zrt a)) := lt_s zca_9 zcd_9
theorem zca_11 : ∀ a, a < 11 → lw_tbl[(zmr.getD a (0, 0, 0, 0, 0)).2.1]? = some (.code (zy a) (zbs a) (znl a) (zrt a)) := lt_s zca_10 zcd_10
theorem zca_12 : ∀ a, a < 12 → lw_tbl[(zmr.getD a (0, 0, 0, 0, 0)).2.1]? = some (.code (zy a) (zbs a) (znl a) (zrt a)) := lt_s zca_11 zcd_11
theorem zca_13 : ∀ a, a < 13 → lw_tbl[(zmr.getD a (0, 0, 0, 0, 0)).2.1]? = some (.code (zy a) (zbs a) (znl a) (zrt a)) := lt_s zca_12 zcd_12
theorem zca_14 : ∀ a, a < 14 → lw_tbl[(zmr.getD a (0, 0, 0, 0, 0)).2.1]? = some (.code (zy a) (zbs a) (znl a) (zrt a)) := lt_s zca_13 zcd_13
theorem zca_15 : ∀ a, a < 15 → lw_tbl[(zmr.getD a (0, 0, 0, 0, 0)).2.1]? = some (.code (zy a) (zbs a) (znl a) (zrt a)) := lt_s zca_14 zcd_14
theorem zca_16 : ∀ a, a < 16 → lw_tbl[(zmr.getD a (0, 0, 0, 0, 0)).2.1]? = some (.code (zy a) (zbs a) (znl a) (zrt a)) := lt_s zca_15 zcd_15
theorem zca_17 : ∀ a, a < 17 → lw_tbl[(zmr.getD a (0, 0, 0, 0, 0)).2.1]? = some (.code (zy a) (zbs a) (znl a) (zrt a)) := lt_s zca_16 zcd_16
theorem zca_18 : ∀ a, a < 18 → lw_tbl[(zmr.getD a (0, 0, 0, 0, 0)).2.1]? = some (.code (zy a) (zbs a) (znl a) (zrt a)) := lt_s zca_17 zcd_17
theorem zca_19 : ∀ a, a < 19 → lw_tbl[(zmr.getD a (0, 0, 0, 0, 0)).2.1]? = some (.code (zy a) (zbs a) (znl a) (zrt a)) := lt_s zca_18 zcd_18
theorem zca_20 : ∀ a, a < 20 → lw_tbl[(zmr.getD a (0, 0, 0, 0, 0)).2.1]? = some (.code (zy a) (zbs a) (znl a) (zrt a)) := lt_s zca_19 zcd_19
theorem zca_21 : ∀ a, a < 21 → lw_tbl[(zmr.getD a (0, 0, 0, 0, 0)).2.1]? = some (.code (zy a) (zbs a) (znl a) (zrt a)) := lt_s zca_20 zcd_20
theorem zca_22 : ∀ a, a < 22 → lw_tbl[(zmr.getD a (0, 0, 0, 0, 0)).2.1]? = some (.code (zy a) (zbs a) (znl a) (zrt a)) := lt_s zca_21 zcd_21
theorem zca_23 : ∀ a, a < 23 → lw_tbl[(zmr.getD a (0, 0, 0, 0, 0)).2.1]? = some (.code (zy a) (zbs a) (znl a) (zrt a)) := lt_s zca_22 zcd_22
theorem zca_24 : ∀ a, a < 24 → lw_tbl[(zmr.getD a (0, 0, 0, 0, 0)).2.1]? = some (.code (zy a) (zbs a) (znl a) (zrt a)) := lt_s zca_23 zcd_23
theorem zca_25 : ∀ a, a < 25 → lw_tbl[(zmr.getD a (0, 0, 0, 0, 0)).2.1]? = some (.code (zy a) (zbs a) (znl a) (zrt a)) := lt_s zca_24 zcd_24
theorem zca_26 : ∀ a, a < 26 → lw_tbl[(zmr.getD a (0, 0, 0, 0, 0)).2.1]? = some (.code (zy a) (zbs a) (znl a) (zrt a)) := lt_s zca_25 zcd_25
theorem zca_27 : ∀ a, a < 27 → lw_tbl[(zmr.getD a (0, 0, 0, 0, 0)).2.1]? = some (.code (zy a) (zbs a) (znl a) (zrt a)) := lt_s zca_26 zcd_26
theorem zca_28 : ∀ a, a < 28 → lw_tbl[(zmr.getD a (0, 0, 0, 0, 0)).2.1]? = some (.code (zy a) (zbs a) (znl a) (zrt a)) := lt_s zca_27 zcd_27
theorem zca_29 : ∀ a, a < 29 → lw_tbl[(zmr.getD a (0, 0, 0, 0, 0)).2.1]? = some (.code (zy a) (zbs a) (znl a) (zrt a)) := lt_s zca_28 zcd_28
theorem zca_30 : ∀ a, a < 30 → lw_tbl[(zmr.getD a (0, 0, 0, 0, 0)).2.1]? = some (.code (zy a) (zbs a) (znl a) (zrt a)) := lt_s zca_29 zcd_29
theorem zca_31 : ∀ a, a < 31 → lw_tbl[(zmr.getD a (0, 0, 0, 0, 0)).2.1]? = some (.code (zy a) (zbs a) (znl a) (zrt a)) := lt_s zca_30 zcd_30
theorem zca_32 : ∀ a, a < 32 → lw_tbl[(zmr.getD a (0, 0, 0, 0, 0)).2.1]? = some (.code (zy a) (zbs a) (znl a) (zrt a)) := lt_s zca_31 zcd_31
theorem zca_33 : ∀ a, a < 33 → lw_tbl[(zmr.getD a (0, 0, 0, 0, 0)).2.1]? = some (.code (zy a) (zbs a) (znl a) (zrt a)) := lt_s zca_32 zcd_32
theorem zca_34 : ∀ a, a < 34 → lw_tbl[(zmr.getD a (0, 0, 0, 0, 0)).2.1]? = some (.code (zy a) (zbs a) (znl a) (zrt a)) := lt_s zca_33 zcd_33
theorem zca_35 : ∀ a, a < 35 → lw_tbl[(zmr.getD a (0, 0, 0, 0, 0)).2.1]? = some (.code (zy a) (zbs a) (znl a) (zrt a)) := lt_s zca_34 zcd_34
theorem zca_36 : ∀ a, a < 36 → lw_tbl[(zmr.getD a (0, 0, 0, 0, 0)).2.1]? = some (.code (zy a) (zbs a) (znl a) (zrt a)) := lt_s zca_35 zcd_35
theorem zca_37 : ∀ a, a < 37 → lw_tbl[(zmr.getD a (0, 0, 0, 0, 0)).2.1]? = some (.code (zy a) (zbs a) (znl a) (zrt a)) := lt_s zca_36 zcd_36
theorem zca_38 : ∀ a, a < 38 → lw_tbl[(zmr.getD a (0, 0, 0, 0, 0)).2.1]? = some (.code (zy a) (zbs a) (znl a) (zrt a)) := lt_s zca_37 zcd_37
theorem zca_39 : ∀ a, a < 39 → lw_tbl[(zmr.getD a (0, 0, 0, 0, 0)).2.1]? = some (.code (zy a) (zbs a) (znl a) (zrt a)) := lt_s zca_38 zcd_38
theorem zca_40 : ∀ a, a < 40 → lw_tbl[(zmr.getD a (0, 0, 0, 0, 0)).2.1]? = some (.code (zy a) (zbs a) (znl a) (zrt a)) := lt_s zca_39 zcd_39
theorem zca_41 : ∀ a, a < 41 → lw_tbl[(zmr.getD a (0, 0, 0, 0, 0)).2.1]? = some (.code (zy a) (zbs a) (znl a) (zrt a)) := lt_s zca_40 zcd_40
theorem zca_42 : ∀ a, a < 42 → lw_tbl[(zmr.getD a (0, 0, 0, 0, 0)).2.1]? = some (.code (zy a) (zbs a) (znl a) (zrt a)) := lt_s zca_41 zcd_41
theorem zca_43 : ∀ a, a < 43 → lw_tbl[(zmr.getD a (0, 0, 0, 0, 0)).2.1]? = some (.code (zy a) (zbs a) (znl a) (zrt a)) := lt_s zca_42 zcd_42
theorem zca_44 : ∀ a, a < 44 → lw_tbl[(zmr.getD a (0, 0, 0, 0, 0)).2.1]? = some (.code (zy a) (zbs a) (znl a) (zrt a)) := lt_s zca_43 zcd_43
theorem zca_45 : ∀ a, a < 45 → lw_tbl[(zmr.getD a (0, 0, 0, 0, 0)).2.1]? = some (.code (zy a) (zbs a) (znl a) (zrt a)) := lt_s zca_44 zcd_44
theorem zca_46 : ∀ a, a < 46 → lw_tbl[(zmr.getD a (0, 0, 0, 0, 0)).2.1]? = some (.code (zy a) (zbs a) (znl a) (zrt a)) := lt_s zca_45 zcd_45
theorem zca_47 : ∀ a, a < 47 → lw_tbl[(zmr.getD a (0, 0, 0, 0, 0)).2.1]? = some (.code (zy a) (zbs a) (znl a) (zrt a)) := lt_s zca_46 zcd_46
theorem zca_48 : ∀ a, a < 48 → lw_tbl[(zmr.getD a (0, 0, 0, 0, 0)).2.1]? = some (.code (zy a) (zbs a) (znl a) (zrt a)) := lt_s zca_47 zcd_47
theorem zca_49 : ∀ a, a < 49 → lw_tbl[(zmr.getD a (0, 0, 0, 0, 0)).2.1]? = some (.code (zy a) (zbs a) (znl a) (zrt a)) := lt_s zca_48 zcd_48
theorem zca_50 : ∀ a, a < 50 → lw_tbl[(zmr.getD a (0, 0, 0, 0, 0)).2.1]? = some (.code (zy a) (zbs a) (znl a) (zrt a)) := lt_s zca_49 zcd_49
theorem zca_51 : ∀ a, a < 51 → lw_tbl[(zmr.getD a (0, 0, 0, 0, 0)).2.1]? = some (.code (zy a) (zbs a) (znl a) (zrt a)) := lt_s zca_50 zcd_50
theorem zca_52 : ∀ a, a < 52 → lw_tbl[(zmr.getD a (0, 0, 0, 0, 0)).2.1]? = some (.code (zy a) (zbs a) (znl a) (zrt a)) := lt_s zca_51 zcd_51
theorem zca_53 : ∀ a, a < 53 → lw_tbl[(zmr.getD a (0, 0, 0, 0, 0)).2.1]? = some (.code (zy a) (zbs a) (znl a) (zrt a)) := lt_s zca_52 zcd_52
theorem zca_54 : ∀ a, a < 54 → lw_tbl[(zmr.getD a (0, 0, 0, 0, 0)).2.1]? = some (.code (zy a) (zbs a) (znl a) (zrt a)) := lt_s zca_53 zcd_53
theorem zca_55 : ∀ a, a < 55 → lw_tbl[(zmr.getD a (0, 0, 0, 0, 0)).2.1]? = some (.code (zy a) (zbs a) (znl a) (zrt a)) := lt_s zca_54 zcd_54
theorem zca_56 : ∀ a, a < 56 → lw_tbl[(zmr.getD a (0, 0, 0, 0, 0)).2.1]? = some (.code (zy a) (zbs a) (znl a) (zrt a)) := lt_s zca_55 zcd_55
theorem zca_57 : ∀ a, a < 57 → lw_tbl[(zmr.getD a (0, 0, 0, 0, 0)).2.1]? = some (.code (zy a) (zbs a) (znl a) (zrt a)) := lt_s zca_56 zcd_56
theorem zca_58 : ∀ a, a < 58 → lw_tbl[(zmr.getD a (0, 0, 0, 0, 0)).2.1]? = some (.code (zy a) (zbs a) (znl a) (zrt a)) := lt_s zca_57 zcd_57
theorem zca_59 : ∀ a, a < 59 → lw_tbl[(zmr.getD a (0, 0, 0, 0, 0)).2.1]? = some (.code (zy a) (zbs a) (znl a) (zrt a)) := lt_s zca_58 zcd_58
theorem zca_60 : ∀ a, a < 60 → lw_tbl[(zmr.getD a (0, 0, 0, 0, 0)).2.1]? = some (.code (zy a) (zbs a) (znl a) (zrt a)) := lt_s zca_59 zcd_59
theorem zca_61 : ∀ a, a < 61 → lw_tbl[(zmr.getD a (0, 0, 0, 0, 0)).2.1]? = some (.code (zy a) (zbs a) (znl a) (zrt a)) := lt_s zca_60 zcd_60
theorem zca_62 : ∀ a, a < 62 → lw_tbl[(zmr.getD a (0, 0, 0, 0, 0)).2.1]? = some (.code (zy a) (zbs a) (znl a) (zrt a)) := lt_s zca_61 zcd_61
theorem zca_63 : ∀ a, a < 63 → lw_tbl[(zmr.getD a (0, 0, 0, 0, 0)).2.1]? = some (.code (zy a) (zbs a) (znl a) (zrt a)) := lt_s zca_62 zcd_62
theorem zca_64 : ∀ a, a < 64 → lw_tbl[(zmr.getD a (0, 0, 0, 0, 0)).2.1]? = some (.code (zy a) (zbs a) (znl a) (zrt a)) := lt_s zca_63 zcd_63
theorem zca_65 : ∀ a, a < 65 → lw_tbl[(zmr.getD a (0, 0, 0, 0, 0)).2.1]? = some (.code (zy a) (zbs a) (znl a) (zrt a)) := lt_s zca_64 zcd_64
theorem zca_66 : ∀ a, a < 66 → lw_tbl[(zmr.getD a (0, 0, 0, 0, 0)).2.1]? = some (.code (zy a) (zbs a) (znl a) (zrt a)) := lt_s zca_65 zcd_65
theorem zca_67 : ∀ a, a < 67 → lw_tbl[(zmr.getD a (0, 0, 0, 0, 0)).2.1]? = some (.code (zy a) (zbs a) (znl a) (zrt a)) := lt_s zca_66 zcd_66
theorem zca_68 : ∀ a, a < 68 → lw_tbl[(zmr.getD a (0, 0, 0, 0, 0)).2.1]? = some (.code (zy a) (zbs a) (znl a) (zrt a)) := lt_s zca_67 zcd_67
theorem zca_69 : ∀ a, a < 69 → lw_tbl[(zmr.getD a (0, 0, 0, 0, 0)).2.1]? = some (.code (zy a) (zbs a) (znl a) (zrt a)) := lt_s zca_68 zcd_68
theorem zca_70 : ∀ a, a < 70 → lw_tbl[(zmr.getD a (0, 0, 0, 0, 0)).2.1]? = some (.code (zy a) (zbs a) (znl a) (zrt a)) := lt_s zca_69 zcd_69
theorem zca_71 : ∀ a, a < 71 → lw_tbl[(zmr.getD a (0, 0, 0, 0, 0)).2.1]? = some (.code (zy a) (zbs a) (znl a) (zrt a)) := lt_s zca_70 zcd_70
theorem zca_72 : ∀ a, a < 72 → lw_tbl[(zmr.getD a (0, 0, 0, 0, 0)).2.1]? = some (.code (zy a) (zbs a) (znl a) (zrt a)) := lt_s zca_71 zcd_71
theorem zca_73 : ∀ a, a < 73 → lw_tbl[(zmr.getD a (0, 0, 0, 0, 0)).2.1]? = some (.code (zy a) (zbs a) (znl a) (zrt a)) := lt_s zca_72 zcd_72
theorem zca_74 : ∀ a, a < 74 → lw_tbl[(zmr.getD a (0, 0, 0, 0, 0)).2.1]? = some (.code (zy a) (zbs a) (znl a) (zrt a)) := lt_s zca_73 zcd_73
theorem zca_75 : ∀ a, a < 75 → lw_tbl[(zmr.getD a (0, 0, 0, 0, 0)).2.1]? = some (.code (zy a) (zbs a) (znl a) (zrt a)) := lt_s zca_74 zcd_74
theorem zca_76 : ∀ a, a < 76 → lw_tbl[(zmr.getD a (0, 0, 0, 0, 0)).2.1]? = some (.code (zy a) (zbs a) (znl a) (zrt a)) := lt_s zca_75 zcd_75
theorem zca_77 : ∀ a, a < 77 → lw_tbl[(zmr.getD a (0, 0, 0, 0, 0)).2.1]? = some (.code (zy a) (zbs a) (znl a) (zrt a)) := lt_s zca_76 zcd_76
theorem zca_78 : ∀ a, a < 78 → lw_tbl[(zmr.getD a (0, 0, 0, 0, 0)).2.1]? = some (.code (zy a) (zbs a) (znl a) (zrt a)) := lt_s zca_77 zcd_77
theorem zca_79 : ∀ a, a < 79 → lw_tbl[(zmr.getD a (0, 0, 0, 0, 0)).2.1]? = some (.code (zy a) (zbs a) (znl a) (zrt a)) := lt_s zca_78 zcd_78
theorem zca_80 : ∀ a, a < 80 → lw_tbl[(zmr.getD a (0, 0, 0, 0, 0)).2.1]? = some (.code (zy a) (zbs a) (znl a) (zrt a)) := lt_s zca_79 zcd_79
theorem zca_81 : ∀ a, a < 81 → lw_tbl[(zmr.getD a (0, 0, 0, 0, 0)).2.1]? = some (.code (zy a) (zbs a) (znl a) (zrt a)) := lt_s zca_80 zcd_80
theorem zca_82 : ∀ a, a < 82 → lw_tbl[(zmr.getD a (0, 0, 0, 0, 0)).2.1]? = some (.code (zy a) (zbs a) (znl a) (zrt a)) := lt_s zca_81 zcd_81
theorem zca_83 : ∀ a, a < 83 → lw_tbl[(zmr.getD a (0, 0, 0, 0, 0)).2.1]? = some (.code (zy a) (zbs a) (znl a) (zrt a)) := lt_s zca_82 zcd_82
theorem zca_84 : ∀ a, a < 84 → lw_tbl[(zmr.getD a (0, 0, 0, 0, 0)).2.1]? = some (.code (zy a) (zbs a) (znl a) (zrt a)) := lt_s zca_83 zcd_83
theorem zca_85 : ∀ a, a < 85 → lw_tbl[(zmr.getD a (0, 0, 0, 0, 0)).2.1]? = some (.code (zy a) (zbs a) (znl a) (zrt a)) := lt_s zca_84 zcd_84
theorem zca_86 : ∀ a, a < 86 → lw_tbl[(zmr.getD a (0, 0, 0, 0, 0)).2.1]? = some (.code (zy a) (zbs a) (znl a) (zrt a)) := lt_s zca_85 zcd_85
theorem zca_87 : ∀ a, a < 87 → lw_tbl[(zmr.getD a (0, 0, 0, 0, 0)).2.1]? = some (.code (zy a) (zbs a) (znl a) (zrt a)) := lt_s zca_86 zcd_86
theorem zca_88 : ∀ a, a < 88 → lw_tbl[(zmr.getD a (0, 0, 0, 0, 0)).2.1]? = some (.code (zy a) (zbs a) (znl a) (zrt a)) := lt_s zca_87 zcd_87
theorem zca_89 : ∀ a, a < 89 → lw_tbl[(zmr.getD a (0, 0, 0, 0, 0)).2.1]? = some (.code (zy a) (zbs a) (znl a) (zrt a)) := lt_s zca_88 zcd_88
theorem zca_90 : ∀ a, a < 90 → lw_tbl[(zmr.getD a (0, 0, 0, 0, 0)).2.1]? = some (.code (zy a) (zbs a) (znl a) (zrt a)) := lt_s zca_89 zcd_89
theorem zca_91 : ∀ a, a < 91 → lw_tbl[(zmr.getD a (0, 0, 0, 0, 0)).2.1]? = some (.code (zy a) (zbs a) (znl a) (zrt a)) := lt_s zca_90 zcd_90
theorem zca_92 : ∀ a, a < 92 → lw_tbl[(zmr.getD a (0, 0, 0, 0, 0)).2.1]? = some (.code (zy a) (zbs a) (znl a) (zrt a)) := lt_s zca_91 zcd_91
theorem zca_93 : ∀ a, a < 93 → lw_tbl[(zmr.getD a (0, 0, 0, 0, 0)).2.1]? = some (.code (zy a) (zbs a) (znl a) (zrt a)) := lt_s zca_92 zcd_92
theorem zca_94 : ∀ a, a < 94 → lw_tbl[(zmr.getD a (0, 0, 0, 0, 0)).2.1]? = some (.code (zy a) (zbs a) (znl a) (zrt a)) := lt_s zca_93 zcd_93
theorem zca_95 : ∀ a, a < 95 → lw_tbl[(zmr.getD a (0, 0, 0, 0, 0)).2.1]? = some (.code (zy a) (zbs a) (znl a) (zrt a)) := lt_s zca_94 zcd_94
theorem zca_96 : ∀ a, a < 96 → lw_tbl[(zmr.getD a (0, 0, 0, 0, 0)).2.1]? = some (.code (zy a) (zbs a) (znl a) (zrt a)) := lt_s zca_95 zcd_95
theorem zca_97 : ∀ a, a < 97 → lw_tbl[(zmr.getD a (0, 0, 0, 0, 0)).2.1]? = some (.code (zy a) (zbs a) (znl a) (zrt a)) := lt_s zca_96 zcd_96
theorem zca_98 : ∀ a, a < 98 → lw_tbl[(zmr.getD a (0, 0, 0, 0, 0)).2.1]? = some (.code (zy a) (zbs a) (znl a) (zrt a)) := lt_s zca_97 zcd_97
theorem zca_99 : ∀ a, a < 99 → lw_tbl[(zmr.getD a (0, 0, 0, 0, 0)).2.1]? = some (.code (zy a) (zbs a) (znl a) (zrt a)) := lt_s zca_98 zcd_98
theorem zca_100 : ∀ a, a < 100 → lw_tbl[(zmr.getD a (0, 0, 0, 0, 0)).2.1]? = some (.code (zy a) (zbs a) (znl a) (zrt a)) := lt_s zca_99 zcd_99
theorem zca_101 : ∀ a, a < 101 → lw_tbl[(zmr.getD a (0, 0, 0, 0, 0)).2.1]? = some (.code (zy a) (zbs a) (znl a) (zrt a)) := lt_s zca_100 zcd_100
theorem zca_102 : ∀ a, a < 102 → lw_tbl[(zmr.getD a (0, 0, 0, 0, 0)).2.1]? = some (.code (zy a) (zbs a) (znl a) (zrt a)) := lt_s zca_101 zcd_101
theorem zca_103 : ∀ a, a < 103 → lw_tbl[(zmr.getD a (0, 0, 0, 0, 0)).2.1]? = some (.code (zy a) (zbs a) (znl a) (zrt a)) := lt_s zca_102 zcd_102
theorem zca_104 : ∀ a, a < 104 → lw_tbl[(zmr.getD a (0, 0, 0, 0, 0)).2.1]? = some (.code (zy a) (zbs a) (znl a) (zrt a)) := lt_s zca_103 zcd_103
theorem zca_105 : ∀ a, a < 105 → lw_tbl[(zmr.getD a (0, 0, 0, 0, 0)).2.1]? = some (.code (zy a) (zbs a) (znl a) (zrt a)) := lt_s zca_104 zcd_104
theorem zca_106 : ∀ a, a < 106 → lw_tbl[(zmr.getD a (0, 0, 0, 0, 0)).2.1]? = some (.code (zy a) (zbs a) (znl a) (zrt a)) := lt_s zca_105 zcd_105
theorem zca_107 : ∀ a, a < 107 → lw_tbl[(zmr.getD a (0, 0, 0, 0, 0)).2.1]? = some (.code (zy a) (zbs a) (znl a) (zrt a)) := lt_s zca_106 zcd_106
theorem zca_108 : ∀ a, a < 108 → lw_tbl[(zmr.getD a (0, 0, 0, 0, 0)).2.1]? = some (.code (zy a) (zbs a) (znl a) (zrt a)) := lt_s zca_107 zcd_107
theorem zca_109 : ∀ a, a < 109 → lw_tbl[(zmr.getD a (0, 0, 0, 0, 0)).2.1]? = some (.code (zy a) (zbs a) (znl a) (zrt a)) := lt_s zca_108 zcd_108
theorem zca_110 : ∀ a, a < 110 → lw_tbl[(zmr.getD a (0, 0, 0, 0, 0)).2.1]? = some (.code (zy a) (zbs a) (znl a) (zrt a)) := lt_s zca_109 zcd_109
theorem zca_111 : ∀ a, a < 111 → lw_tbl[(zmr.getD a (0, 0, 0, 0, 0)).2.1]? = some (.code (zy a) (zbs a) (znl a) (zrt a)) := lt_s zca_110 zcd_110
theorem zca_112 : ∀ a, a < 112 → lw_tbl[(zmr.getD a (0, 0, 0, 0, 0)).2.1]? = some (.code (zy a) (zbs a) (znl a) (zrt a)) := lt_s zca_111 zcd_111
theorem zca_113 : ∀ a, a < 113 → lw_tbl[(zmr.getD a (0, 0, 0, 0, 0)).2.1]? = some (.code (zy a) (zbs a) (znl a) (zrt a)) := lt_s zca_112 zcd_112
theorem zca_114 : ∀ a, a < 114 → lw_tbl[(zmr.getD a (0, 0, 0, 0, 0)).2.1]? = some (.code (zy a) (zbs a) (znl a) (zrt a)) := lt_s zca_113 zcd_113
theorem zca_115 : ∀ a, a < 115 → lw_tbl[(zmr.getD a (0, 0, 0, 0, 0)).2.1]? = some (.code (zy a) (zbs a) (znl a) (zrt a)) := lt_s zca_114 zcd_114
theorem zca_116 : ∀ a, a < 116 → lw_tbl[(zmr.getD a (0, 0, 0, 0, 0)).2.1]? = some (.code (zy a) (zbs a) (znl a) (zrt a)) := lt_s zca_115 zcd_115
theorem zca_117 : ∀ a, a < 117 → lw_tbl[(zmr.getD a (0, 0, 0, 0, 0)).2.1]? = some (.code (zy a) (zbs a) (znl a) (zrt a)) := lt_s zca_116 zcd_116
theorem zca_118 : ∀ a, a < 118 → lw_tbl[(zmr.getD a (0, 0, 0, 0, 0)).2.1]? = some (.code (zy a) (zbs a) (znl a) (zrt a)) := lt_s zca_117 zcd_117
theorem zca_119 : ∀ a, a < 119 → lw_tbl[(zmr.getD a (0, 0, 0, 0, 0)).2.1]? = some (.code (zy a) (zbs a) (znl a) (zrt a)) := lt_s zca_118 zcd_118
theorem zca_120 : ∀ a, a < 120 → lw_tbl[(zmr.getD a (0, 0, 0, 0, 0)).2.1]? = some (.code (zy a) (zbs a) (znl a) (zrt a)) := lt_s zca_119 zcd_119
theorem zca_121 : ∀ a, a < 121 → lw_tbl[(zmr.getD a (0, 0, 0, 0, 0)).2.1]? = some (.code (zy a) (zbs a) (znl a) (zrt a)) := lt_s zca_120 zcd_120
theorem zca_122 : ∀ a, a < 122 → lw_tbl[(zmr.getD a (0, 0, 0, 0, 0)).2.1]? = some (.code (zy a) (zbs a) (znl a) (zrt a)) := lt_s zca_121 zcd_121
theorem zca_123 : ∀ a, a < 123 → lw_tbl[(zmr.getD a (0, 0, 0, 0, 0)).2.1]? = some (.code (zy a) (zbs a) (znl a) (zrt a)) := lt_s zca_122 zcd_122
theorem zca_124 : ∀ a, a < 124 → lw_tbl[(zmr.getD a (0, 0, 0, 0, 0)).2.1]? = some (.code (zy a) (zbs a) (znl a) (zrt a)) := lt_s zca_123 zcd_123
theorem zca_125 : ∀ a, a < 125 → lw_tbl[(zmr.getD a (0, 0, 0, 0, 0)).2.1]? = some (.code (zy a) (zbs a) (znl a) (zrt a)) := lt_s zca_124 zcd_124
theorem zca_126 : ∀ a, a < 126 → lw_tbl[(zmr.getD a (0, 0, 0, 0, 0)).2.1]? = some (.code (zy a) (zbs a) (znl a) (zrt a)) := lt_s zca_125 zcd_125
theorem zca_127 : ∀ a, a < 127 → lw_tbl[(zmr.getD a (0, 0, 0, 0, 0)).2.1]? = some (.code (zy a) (zbs a) (znl a) (zrt a)) := lt_s zca_126 zcd_126
theorem zca_128 : ∀ a, a < 128 → lw_tbl[(zmr.getD a (0, 0, 0, 0, 0)).2.1]? = some (.code (zy a) (zbs a) (znl a) (zrt a)) := lt_s zca_127 zcd_127
theorem zca_129 : ∀ a, a < 129 → lw_tbl[(zmr.getD a (0, 0, 0, 0, 0)).2.1]? = some (.code (zy a) (zbs a) (znl a) (zrt a)) := lt_s zca_128 zcd_128
theorem zca_130 : ∀ a, a < 130 → lw_tbl[(zmr.getD a (0, 0, 0, 0, 0)).2.1]? = some (.code (zy a) (zbs a) (znl a) (zrt a)) := lt_s zca_129 zcd_129
theorem zca_131 : ∀ a, a < 131 → lw_tbl[(zmr.getD a (0, 0, 0, 0, 0)).2.1]? = some (.code (zy a) (zbs a) (znl a) (zrt a)) := lt_s zca_130 zcd_130
theorem zca_132 : ∀ a, a < 132 → lw_tbl[(zmr.getD a (0, 0, 0, 0, 0)).2.1]? = some (.code (zy a) (zbs a) (znl a) (zrt a)) := lt_s zca_131 zcd_131
theorem zca_133 : ∀ a, a < 133 → lw_tbl[(zmr.getD a (0, 0, 0, 0, 0)).2.1]? = some (.code (zy a) (zbs a) (znl a) (zrt a)) := lt_s zca_132 zcd_132
theorem zca_134 : ∀ a, a < 134 → lw_tbl[(zmr.getD a (0, 0, 0, 0, 0)).2.1]? = some (.code (zy a) (zbs a) (znl a) (zrt a)) := lt_s zca_133 zcd_133
theorem zca_135 : ∀ a, a < 135 → lw_tbl[(zmr.getD a (0, 0, 0, 0, 0)).2.1]? = some (.code (zy a) (zbs a) (znl a) (zrt a)) := lt_s zca_134 zcd_134
theorem zca_136 : ∀ a, a < 136 → lw_tbl[(zmr.getD a (0, 0, 0, 0, 0)).2.1]? = some (.code (zy a) (zbs a) (znl a) (zrt a)) := lt_s zca_135 zcd_135
theorem zca_137 : ∀ a, a < 137 → lw_tbl[(zmr.getD a (0, 0, 0, 0, 0)).2.1]? = some (.code (zy a) (zbs a) (znl a) (zrt a)) := lt_s zca_136 zcd_136
theorem zca_138 : ∀ a, a < 138 → lw_tbl[(zmr.getD a (0, 0, 0, 0, 0)).2.1]? = some (.code (zy a) (zbs a) (znl a) (zrt a)) := lt_s zca_137 zcd_137
theorem zca_139 : ∀ a, a < 139 → lw_tbl[(zmr.getD a (0, 0, 0, 0, 0)).2.1]? = some (.code (zy a) (zbs a) (znl a) (zrt a)) := lt_s zca_138 zcd_138
theorem zca_140 : ∀ a, a < 140 → lw_tbl[(zmr.getD a (0, 0, 0, 0, 0)).2.1]? = some (.code (zy a) (zbs a) (znl a) (zrt a)) := lt_s zca_139 zcd_139
theorem zca_141 : ∀ a, a < 141 → lw_tbl[(zmr.getD a (0, 0, 0, 0, 0)).2.1]? = some (.code (zy a) (zbs a) (znl a) (zrt a)) := lt_s zca_140 zcd_140
theorem zca_142 : ∀ a, a < 142 → lw_tbl[(zmr.getD a (0, 0, 0, 0, 0)).2.1]? = some (.code (zy a) (zbs a) (znl a) (zrt a)) := lt_s zca_141 zcd_141
theorem zca_143 : ∀ a, a < 143 → lw_tbl[(zmr.getD a (0, 0, 0, 0, 0)).2.1]? = some (.code (zy a) (zbs a) (znl a) (zrt a)) := lt_s zca_142 zcd_142
theorem zca_144 : ∀ a, a < 144 → lw_tbl[(zmr.getD a (0, 0, 0, 0, 0)).2.1]? = some (.code (zy a) (zbs a) (znl a) (zrt a)) := lt_s zca_143 zcd_143
theorem zca_145 : ∀ a, a < 145 → lw_tbl[(zmr.getD a (0, 0, 0, 0, 0)).2.1]? = some (.code (zy a) (zbs a) (znl a) (zrt a)) := lt_s zca_144 zcd_144
theorem zca_146 : ∀ a, a < 146 → lw_tbl[(zmr.getD a (0, 0, 0, 0, 0)).2.1]? = some (.code (zy a) (zbs a) (znl a) (zrt a)) := lt_s zca_145 zcd_145
theorem zca_147 : ∀ a, a < 147 → lw_tbl[(zmr.getD a (0, 0, 0, 0, 0)).2.1]? = some (.code (zy a) (zbs a) (znl a) (zrt a)) := lt_s zca_146 zcd_146
theorem zca_148 : ∀ a, a < 148 → lw_tbl[(zmr.getD a (0, 0, 0, 0, 0)).2.1]? = some (.code (zy a) (zbs a) (znl a) (zrt a)) := lt_s zca_147 zcd_147
theorem zca_149 : ∀ a, a < 149 → lw_tbl[(zmr.getD a (0, 0, 0, 0, 0)).2.1]? = some (.code (zy a) (zbs a) (znl a) (zrt a)) := lt_s zca_148 zcd_148
theorem zca_150 : ∀ a, a < 150 → lw_tbl[(zmr.getD a (0, 0, 0, 0, 0)).2.1]? = some (.code (zy a) (zbs a) (znl a) (zrt a)) := lt_s zca_149 zcd_149
theorem zca_151 : ∀ a, a < 151 → lw_tbl[(zmr.getD a (0, 0, 0, 0, 0)).2.1]? = some (.code (zy a) (zbs a) (znl a) (zrt a)) := lt_s zca_150 zcd_150
theorem zca_152 : ∀ a, a < 152 → lw_tbl[(zmr.getD a (0, 0, 0, 0, 0)).2.1]? = some (.code (zy a) (zbs a) (znl a) (zrt a)) := lt_s zca_151 zcd_151
theorem zca_153 : ∀ a, a < 153 → lw_tbl[(zmr.getD a (0, 0, 0, 0, 0)).2.1]? = some (.code (zy a) (zbs a) (znl a) (zrt a)) := lt_s zca_152 zcd_152
theorem zca_154 : ∀ a, a < 154 → lw_tbl[(zmr.getD a (0, 0, 0, 0, 0)).2.1]? = some (.code (zy a) (zbs a) (znl a) (zrt a)) := lt_s zca_153 zcd_153
theorem zca_155 : ∀ a, a < 155 → lw_tbl[(zmr.getD a (0, 0, 0, 0, 0)).2.1]? = some (.code (zy a) (zbs a) (znl a) (zrt a)) := lt_s zca_154 zcd_154
theorem zca_156 : ∀ a, a < 156 → lw_tbl[(zmr.getD a (0, 0, 0, 0, 0)).2.1]? = some (.code (zy a) (zbs a) (znl a) (zrt a)) := lt_s zca_155 zcd_155
theorem zca_157 : ∀ a, a < 157 → lw_tbl[(zmr.getD a (0, 0, 0, 0, 0)).2.1]? = some (.code (zy a) (zbs a) (znl a) (zrt a)) := lt_s zca_156 zcd_156
theorem zca_158 : ∀ a, a < 158 → lw_tbl[(zmr.getD a (0, 0, 0, 0, 0)).2.1]? = some (.code (zy a) (zbs a) (znl a) (zrt a)) := lt_s zca_157 zcd_157
theorem zca_159 : ∀ a, a < 159 → lw_tbl[(zmr.getD a (0, 0, 0, 0, 0)).2.1]? = some (.code (zy a) (zbs a) (znl a) (zrt a)) := lt_s zca_158 zcd_158
theorem zca_160 : ∀ a, a < 160 → lw_tbl[(zmr.getD a (0, 0, 0, 0, 0)).2.1]? = some (.code (zy a) (zbs a) (znl a) (zrt a)) := lt_s zca_159 zcd_159
theorem zca_161 : ∀ a, a < 161 → lw_tbl[(zmr.getD a (0, 0, 0, 0, 0)).2.1]? = some (.code (zy a) (zbs a) (znl a) (zrt a)) := lt_s zca_160 zcd_160
theorem zca_162 : ∀ a, a < 162 → lw_tbl[(zmr.getD a (0, 0, 0, 0, 0)).2.1]? = some (.code (zy a) (zbs a) (znl a) (zrt a)) := lt_s zca_161 zcd_161
theorem zca_163 : ∀ a, a < 163 → lw_tbl[(zmr.getD a (0, 0, 0, 0, 0)).2.1]? = some (.code (zy a) (zbs a) (znl a) (zrt a)) := lt_s zca_162 zcd_162
theorem zca_164 : ∀ a, a < 164 → lw_tbl[(zmr.getD a (0, 0, 0, 0, 0)).2.1]? = some (.code (zy a) (zbs a) (znl a) (zrt a)) := lt_s zca_163 zcd_163
theorem zca_165 : ∀ a, a < 165 → lw_tbl[(zmr.getD a (0, 0, 0, 0, 0)).2.1]? = some (.code (zy a) (zbs a) (znl a) (zrt a)) := lt_s zca_164 zcd_164
theorem zca_166 : ∀ a, a < 166 → lw_tbl[(zmr.getD a (0, 0, 0, 0, 0)).2.1]? = some (.code (zy a) (zbs a) (znl a) (zrt a)) := lt_s zca_165 zcd_165
theorem zca_167 : ∀ a, a < 167 → lw_tbl[(zmr.getD a (0, 0, 0, 0, 0)).2.1]? = some (.code (zy a) (zbs a) (znl a) (zrt a)) := lt_s zca_166 zcd_166
theorem zca_168 : ∀ a, a < 168 → lw_tbl[(zmr.getD a (0, 0, 0, 0, 0)).2.1]? = some (.code (zy a) (zbs a) (znl a) (zrt a)) := lt_s zca_167 zcd_167
theorem zca_169 : ∀ a, a < 169 → lw_tbl[(zmr.getD a (0, 0, 0, 0, 0)).2.1]? = some (.code (zy a) (zbs a) (znl a) (zrt a)) := lt_s zca_168 zcd_168
theorem zca_170 : ∀ a, a < 170 → lw_tbl[(zmr.getD a (0, 0, 0, 0, 0)).2.1]? = some (.code (zy a) (zbs a) (znl a) (zrt a)) := lt_s zca_169 zcd_169
theorem zca_171 : ∀ a, a < 171 → lw_tbl[(zmr.getD a (0, 0, 0, 0, 0)).2.1]? = some (.code (zy a) (zbs a) (znl a) (zrt a)) := lt_s zca_170 zcd_170
theorem zca_172 : ∀ a, a < 172 → lw_tbl[(zmr.getD a (0, 0, 0, 0, 0)).2.1]? = some (.code (zy a) (zbs a) (znl a) (zrt a)) := lt_s zca_171 zcd_171
theorem zca_173 : ∀ a, a < 173 → lw_tbl[(zmr.getD a (0, 0, 0, 0, 0)).2.1]? = some (.code (zy a) (zbs a) (znl a) (zrt a)) := lt_s zca_172 zcd_172
theorem zca_174 : ∀ a, a < 174 → lw_tbl[(zmr.getD a (0, 0, 0, 0, 0)).2.1]? = some (.code (zy a) (zbs a) (znl a) (zrt a)) := lt_s zca_173 zcd_173
theorem zca_175 : ∀ a, a < 175 → lw_tbl[(zmr.getD a (0, 0, 0, 0, 0)).2.1]? = some (.code (zy a) (zbs a) (znl a) (zrt a)) := lt_s zca_174 zcd_174
theorem zca_176 : ∀ a, a < 176 → lw_tbl[(zmr.getD a (0, 0, 0, 0, 0)).2.1]? = some (.code (zy a) (zbs a) (znl a) (zrt a)) := lt_s zca_175 zcd_175
theorem zca_177 : ∀ a, a < 177 → lw_tbl[(zmr.getD a (0, 0, 0, 0, 0)).2.1]? = some (.code (zy a) (zbs a) (znl a) (zrt a)) := lt_s zca_176 zcd_176
theorem zca_178 : ∀ a, a < 178 → lw_tbl[(zmr.getD a (0, 0, 0, 0, 0)).2.1]? = some (.code (zy a) (zbs a) (znl a) (zrt a)) := lt_s zca_177 zcd_177
theorem zca_179 : ∀ a, a < 179 → lw_tbl[(zmr.getD a (0, 0, 0, 0, 0)).2.1]? = some (.code (zy a) (zbs a) (znl a) (zrt a)) := lt_s zca_178 zcd_178
theorem zca_180 : ∀ a, a < 180 → lw_tbl[(zmr.getD a (0, 0, 0, 0, 0)).2.1]? = some (.code (zy a) (zbs a) (znl a) (zrt a)) := lt_s zca_179 zcd_179
theorem zca_181 : ∀ a, a < 181 → lw_tbl[(zmr.getD a (0, 0, 0, 0, 0)).2.1]? = some (.code (zy a) (zbs a) (znl a) (zrt a)) := lt_s zca_180 zcd_180
theorem zca_182 : ∀ a, a < 182 → lw_tbl[(zmr.getD a (0, 0, 0, 0, 0)).2.1]? = some (.code (zy a) (zbs a) (znl a) (zrt a)) := lt_s zca_181 zcd_181
theorem zca_183 : ∀ a, a < 183 → lw_tbl[(zmr.getD a (0, 0, 0, 0, 0)).2.1]? = some (.code (zy a) (zbs a) (znl a) (zrt a)) := lt_s zca_182 zcd_182
theorem zca_184 : ∀ a, a < 184 → lw_tbl[(zmr.getD a (0, 0, 0, 0, 0)).2.1]? = some (.code (zy a) (zbs a) (znl a) (zrt a)) := lt_s zca_183 zcd_183
theorem zca_185 : ∀ a, a < 185 → lw_tbl[(zmr.getD a (0, 0, 0, 0, 0)).2.1]? = some (.code (zy a) (zbs a) (znl a) (zrt a)) := lt_s zca_184 zcd_184
theorem zca_186 : ∀ a, a < 186 → lw_tbl[(zmr.getD a (0, 0, 0, 0, 0)).2.1]? = some (.code (zy a) (zbs a) (znl a) (zrt a)) := lt_s zca_185 zcd_185
theorem zca_187 : ∀ a, a < 187 → lw_tbl[(zmr.getD a (0, 0, 0, 0, 0)).2.1]? = some (.code (zy a) (zbs a) (znl a) (zrt a)) := lt_s zca_186 zcd_186
theorem zca_188 : ∀ a, a < 188 → lw_tbl[(zmr.getD a (0, 0, 0, 0, 0)).2.1]? = some (.code (zy a) (zbs a) (znl a) (zrt a)) := lt_s zca_187 zcd_187
theorem zca_189 : ∀ a, a < 189 → lw_tbl[(zmr.getD a (0, 0, 0, 0, 0)).2.1]? = some (.code (zy a) (zbs a) (znl a) (zrt a)) := lt_s zca_188 zcd_188
theorem zca_190 : ∀ a, a < 190 → lw_tbl[(zmr.getD a (0, 0, 0, 0, 0)).2.1]? = some (.code (zy a) (zbs a) (znl a) (zrt a)) := lt_s zca_189 zcd_189
theorem zca_191 : ∀ a, a < 191 → lw_tbl[(zmr.getD a (0, 0, 0, 0, 0)).2.1]? = some (.code (zy a) (zbs a) (znl a) (zrt a)) := lt_s zca_190 zcd_190
theorem zca_192 : ∀ a, a < 192 → lw_tbl[(zmr.getD a (0, 0, 0, 0, 0)).2.1]? = some (.code (zy a) (zbs a) (znl a) (zrt a)) := lt_s zca_191 zcd_191
theorem zca_193 : ∀ a, a < 193 → lw_tbl[(zmr.getD a (0, 0, 0, 0, 0)).2.1]? = some (.code (zy a) (zbs a) (znl a) (zrt a)) := lt_s zca_192 zcd_192
theorem zca_194 : ∀ a, a < 194 → lw_tbl[(zmr.getD a (0, 0, 0, 0, 0)).2.1]? = some (.code (zy a) (zbs a) (znl a) (zrt a)) := lt_s zca_193 zcd_193
theorem zca_195 : ∀ a, a < 195 → lw_tbl[(zmr.getD a (0, 0, 0, 0, 0)).2.1]? = some (.code (zy a) (zbs a) (znl a) (zrt a)) := lt_s zca_194 zcd_194
theorem zca_196 : ∀ a, a < 196 → lw_tbl[(zmr.getD a (0, 0, 0, 0, 0)).2.1]? = some (.code (zy a) (zbs a) (znl a) (zrt a)) := lt_s zca_195 zcd_195
theorem zca_197 : ∀ a, a < 197 → lw_tbl[(zmr.getD a (0, 0, 0, 0, 0)).2.1]? = some (.code (zy a) (zbs a) (znl a) (zrt a)) := lt_s zca_196 zcd_196
theorem zca_198 : ∀ a, a < 198 → lw_tbl[(zmr.getD a (0, 0, 0, 0, 0)).2.1]? = some (.code (zy a) (zbs a) (znl a) (zrt a)) := lt_s zca_197 zcd_197
theorem zca_199 : ∀ a, a < 199 → lw_tbl[(zmr.getD a (0, 0, 0, 0, 0)).2.1]? = some (.code (zy a) (zbs a) (znl a) (zrt a)) := lt_s zca_198 zcd_198
theorem zca_200 : ∀ a, a < 200 → lw_tbl[(zmr.getD a (0, 0, 0, 0, 0)).2.1]? = some (.code (zy a) (zbs a) (znl a) (zrt a)) := lt_s zca_199 zcd_199
theorem zca_201 : ∀ a, a < 201 → lw_tbl[(zmr.getD a (0, 0, 0, 0, 0)).2.1]? = some (.code (zy a) (zbs a) (znl a) (zrt a)) := lt_s zca_200 zcd_200
theorem zca_202 : ∀ a, a < 202 → lw_tbl[(zmr.getD a (0, 0, 0, 0, 0)).2.1]? = some (.code (zy a) (zbs a) (znl a) (zrt a)) := lt_s zca_201 zcd_201
theorem zca_203 : ∀ a, a < 203 → lw_tbl[(zmr.getD a (0, 0, 0, 0, 0)).2.1]? = some (.code (zy a) (zbs a) (znl a) (zrt a)) := lt_s zca_202 zcd_202
theorem zca_204 : ∀ a, a < 204 → lw_tbl[(zmr.getD a (0, 0, 0, 0, 0)).2.1]? = some (.code (zy a) (zbs a) (znl a) (zrt a)) := lt_s zca_203 zcd_203
theorem zca_205 : ∀ a, a < 205 → lw_tbl[(zmr.getD a (0, 0, 0, 0, 0)).2.1]? = some (.code (zy a) (zbs a) (znl a) (zrt a)) := lt_s zca_204 zcd_204
theorem zca_206 : ∀ a, a < 206 → lw_tbl[(zmr.getD a (0, 0, 0, 0, 0)).2.1]? = some (.code (zy a) (zbs a) (znl a) (zrt a)) := lt_s zca_205 zcd_205
theorem zca_207 : ∀ a, a < 207 → lw_tbl[(zmr.getD a (0, 0, 0, 0, 0)).2.1]? = some (.code (zy a) (zbs a) (znl a) (zrt a)) := lt_s zca_206 zcd_206
theorem zca_208 : ∀ a, a < 208 → lw_tbl[(zmr.getD a (0, 0, 0, 0, 0)).2.1]? = some (.code (zy a) (zbs a) (znl a) (zrt a)) := lt_s zca_207 zcd_207
theorem zca_209 : ∀ a, a < 209 → lw_tbl[(zmr.getD a (0, 0, 0, 0, 0)).2.1]? = some (.code (zy a) (zbs a) (znl a) (zrt a)) := lt_s zca_208 zcd_208
theorem zca_210 : ∀ a, a < 210 → lw_tbl[(zmr.getD a (0, 0, 0, 0, 0)).2.1]? = some (.code (zy a) (zbs a) (znl a) (zrt a)) := lt_s zca_209 zcd_209
theorem zca_211 : ∀ a, a < 211 → lw_tbl[(zmr.getD a (0, 0, 0, 0, 0)).2.1]? = some (.code (zy a) (zbs a) (znl a) (zrt a)) := lt_s zca_210 zcd_210
theorem zca_212 : ∀ a, a < 212 → lw_tbl[(zmr.getD a (0, 0, 0, 0, 0)).2.1]? = some (.code (zy a) (zbs a) (znl a) (zrt a)) := lt_s zca_211 zcd_211
theorem zca_213 : ∀ a, a < 213 → lw_tbl[(zmr.getD a (0, 0, 0, 0, 0)).2.1]? = some (.code (zy a) (zbs a) (znl a) (zrt a)) := lt_s zca_212 zcd_212
theorem zca_214 : ∀ a, a < 214 → lw_tbl[(zmr.getD a (0, 0, 0, 0, 0)).2.1]? = some (.code (zy a) (zbs a) (znl a) (zrt a)) := lt_s zca_213 zcd_213
theorem zca_215 : ∀ a, a < 215 → lw_tbl[(zmr.getD a (0, 0, 0, 0, 0)).2.1]? = some (.code (zy a) (zbs a) (znl a) (zrt a)) := lt_s zca_214 zcd_214
theorem zca_216 : ∀ a, a < 216 → lw_tbl[(zmr.getD a (0, 0, 0, 0, 0)).2.1]? = some (.code (zy a) (zbs a) (znl a) (zrt a)) := lt_s zca_215 zcd_215
theorem zca_217 : ∀ a, a < 217 → lw_tbl[(zmr.getD a (0, 0, 0, 0, 0)).2.1]? = some (.code (zy a) (zbs a) (znl a) (zrt a)) := lt_s zca_216 zcd_216
theorem zca_218 : ∀ a, a < 218 → lw_tbl[(zmr.getD a (0, 0, 0, 0, 0)).2.1]? = some (.code (zy a) (zbs a) (znl a) (zrt a)) := lt_s zca_217 zcd_217
theorem zca_219 : ∀ a, a < 219 → lw_tbl[(zmr.getD a (0, 0, 0, 0, 0)).2.1]? = some (.code (zy a) (zbs a) (znl a) (zrt a)) := lt_s zca_218 zcd_218
theorem zca_220 : ∀ a, a < 220 → lw_tbl[(zmr.getD a (0, 0, 0, 0, 0)).2.1]? = some (.code (zy a) (zbs a) (znl a) (zrt a)) := lt_s zca_219 zcd_219
theorem zca_221 : ∀ a, a < 221 → lw_tbl[(zmr.getD a (0, 0, 0, 0, 0)).2.1]? = some (.code (zy a) (zbs a) (znl a) (zrt a)) := lt_s zca_220 zcd_220
theorem zca_222 : ∀ a, a < 222 → lw_tbl[(zmr.getD a (0, 0, 0, 0, 0)).2.1]? = some (.code (zy a) (zbs a) (znl a) (zrt a)) := lt_s zca_221 zcd_221
theorem zca_223 : ∀ a, a < 223 → lw_tbl[(zmr.getD a (0, 0, 0, 0, 0)).2.1]? = some (.code (zy a) (zbs a) (znl a) (zrt a)) := lt_s zca_222 zcd_222
theorem zca_224 : ∀ a, a < 224 → lw_tbl[(zmr.getD a (0, 0, 0, 0, 0)).2.1]? = some (.code (zy a) (zbs a) (znl a) (zrt a)) := lt_s zca_223 zcd_223
theorem zca_225 : ∀ a, a < 225 → lw_tbl[(zmr.getD a (0, 0, 0, 0, 0)).2.1]? = some (.code (zy a) (zbs a) (znl a) (zrt a)) := lt_s zca_224 zcd_224
theorem zca_226 : ∀ a, a < 226 → lw_tbl[(zmr.getD a (0, 0, 0, 0, 0)).2.1]? = some (.code (zy a) (zbs a) (znl a) (zrt a)) := lt_s zca_225 zcd_225
theorem zca_227 : ∀ a, a < 227 → lw_tbl[(zmr.getD a (0, 0, 0, 0, 0)).2.1]? = some (.code (zy a) (zbs a) (znl a) (zrt a)) := lt_s zca_226 zcd_226
theorem zca_228 : ∀ a, a < 228 → lw_tbl[(zmr.getD a (0, 0, 0, 0, 0)).2.1]? = some (.code (zy a) (zbs a) (znl a) (zrt a)) := lt_s zca_227 zcd_227
theorem zca_229 : ∀ a, a < 229 → lw_tbl[(zmr.getD a (0, 0, 0, 0, 0)).2.1]? = some (.code (zy a) (zbs a) (znl a) (zrt a)) := lt_s zca_228 zcd_228
theorem zca_230 : ∀ a, a < 230 → lw_tbl[(zmr.getD a (0, 0, 0, 0, 0)).2.1]? = some (.code (zy a) (zbs a) (znl a) (zrt a)) := lt_s zca_229 zcd_229
theorem zca_231 : ∀ a, a < 231 → lw_tbl[(zmr.getD a (0, 0, 0, 0, 0)).2.1]? = some (.code (zy a) (zbs a) (znl a) (zrt a)) := lt_s zca_230 zcd_230
theorem zca_232 : ∀ a, a < 232 → lw_tbl[(zmr.getD a (0, 0, 0, 0, 0)).2.1]? = some (.code (zy a) (zbs a) (znl a) (zrt a)) := lt_s zca_231 zcd_231
theorem zca_233 : ∀ a, a < 233 → lw_tbl[(zmr.getD a (0, 0, 0, 0, 0)).2.1]? = some (.code (zy a) (zbs a) (znl a) (zrt a)) := lt_s zca_232 zcd_232
theorem zca_234 : ∀ a, a < 234 → lw_tbl[(zmr.getD a (0, 0, 0, 0, 0)).2.1]? = some (.code (zy a) (zbs a) (znl a) (zrt a)) := lt_s zca_233 zcd_233
theorem zca_235 : ∀ a, a < 235 → lw_tbl[(zmr.getD a (0, 0, 0, 0, 0)).2.1]? = some (.code (zy a) (zbs a) (znl a) (zrt a)) := lt_s zca_234 zcd_234
theorem zca_236 : ∀ a, a < 236 → lw_tbl[(zmr.getD a (0, 0, 0, 0, 0)).2.1]? = some (.code (zy a) (zbs a) (znl a) (zrt a)) := lt_s zca_235 zcd_235
theorem zca_237 : ∀ a, a < 237 → lw_tbl[(zmr.getD a (0, 0, 0, 0, 0)).2.1]? = some (.code (zy a) (zbs a) (znl a) (zrt a)) := lt_s zca_236 zcd_236
theorem zca_238 : ∀ a, a < 238 → lw_tbl[(zmr.getD a (0, 0, 0, 0, 0)).2.1]? = some (.code (zy a) (zbs a) (znl a) (zrt a)) := lt_s zca_237 zcd_237
theorem zca_239 : ∀ a, a < 239 → lw_tbl[(zmr.getD a (0, 0, 0, 0, 0)).2.1]? = some (.code (zy a) (zbs a) (znl a) (zrt a)) := lt_s zca_238 zcd_238
theorem zca_240 : ∀ a, a < 240 → lw_tbl[(zmr.getD a (0, 0, 0, 0, 0)).2.1]? = some (.code (zy a) (zbs a) (znl a) (zrt a)) := lt_s zca_239 zcd_239
theorem zca_241 : ∀ a, a < 241 → lw_tbl[(zmr.getD a (0, 0, 0, 0, 0)).2.1]? = some (.code (zy a) (zbs a) (znl a) (zrt a)) := lt_s zca_240 zcd_240
theorem zca_242 : ∀ a, a < 242 → lw_tbl[(zmr.getD a (0, 0, 0, 0, 0)).2.1]? = some (.code (zy a) (zbs a) (znl a) (zrt a)) := lt_s zca_241 zcd_241
theorem zca_243 : ∀ a, a < 243 → lw_tbl[(zmr.getD a (0, 0, 0, 0, 0)).2.1]? = some (.code (zy a) (zbs a) (znl a) (zrt a)) := lt_s zca_242 zcd_242
theorem zca_244 : ∀ a, a < 244 → lw_tbl[(zmr.getD a (0, 0, 0, 0, 0)).2.1]? = some (.code (zy a) (zbs a) (znl a) (zrt a)) := lt_s zca_243 zcd_243
theorem zca_245 : ∀ a, a < 245 → lw_tbl[(zmr.getD a (0, 0, 0, 0, 0)).2.1]? = some (.code (zy a) (zbs a) (znl a) (zrt a)) := lt_s zca_244 zcd_244
theorem zca_246 : ∀ a, a < 246 → lw_tbl[(zmr.getD a (0, 0, 0, 0, 0)).2.1]? = some (.code (zy a) (zbs a) (znl a) (zrt a)) := lt_s zca_245 zcd_245
theorem zca_247 : ∀ a, a < 247 → lw_tbl[(zmr.getD a (0, 0, 0, 0, 0)).2.1]? = some (.code (zy a) (zbs a) (znl a) (zrt a)) := lt_s zca_246 zcd_246
theorem zca_248 : ∀ a, a < 248 → lw_tbl[(zmr.getD a (0, 0, 0, 0, 0)).2.1]? = some (.code (zy a) (zbs a) (znl a) (zrt a)) := lt_s zca_247 zcd_247
theorem zca_249 : ∀ a, a < 249 → lw_tbl[(zmr.getD a (0, 0, 0, 0, 0)).2.1]? = some (.code (zy a) (zbs a) (znl a) (zrt a)) := lt_s zca_248 zcd_248
theorem zca_250 : ∀ a, a < 250 → lw_tbl[(zmr.getD a (0, 0, 0, 0, 0)).2.1]? = some (.code (zy a) (zbs a) (znl a) (zrt a)) := lt_s zca_249 zcd_249
theorem zca_251 : ∀ a, a < 251 → lw_tbl[(zmr.getD a (0, 0, 0, 0, 0)).2.1]? = some (.code (zy a) (zbs a) (znl a) (zrt a)) := lt_s zca_250 zcd_250
theorem zca_252 : ∀ a, a < 252 → lw_tbl[(zmr.getD a (0, 0, 0, 0, 0)).2.1]? = some (.code (zy a) (zbs a) (znl a) (zrt a)) := lt_s zca_251 zcd_251
theorem zca_253 : ∀ a, a < 253 → lw_tbl[(zmr.getD a (0, 0, 0, 0, 0)).2.1]? = some (.code (zy a) (zbs a) (znl a) (zrt a)) := lt_s zca_252 zcd_252
theorem zca_254 : ∀ a, a < 254 → lw_tbl[(zmr.getD a (0, 0, 0, 0, 0)).2.1]? = some (.code (zy a) (zbs a) (znl a) (zrt a)) := lt_s zca_253 zcd_253
theorem zca_255 : ∀ a, a < 255 → lw_tbl[(zmr.getD a (0, 0, 0, 0, 0)).2.1]? = some (.code (zy a) (zbs a) (znl a) (zrt a)) := lt_s zca_254 zcd_254
theorem zca_256 : ∀ a, a < 256 → lw_tbl[(zmr.getD a (0, 0, 0, 0, 0)).2.1]? = some (.code (zy a) (zbs a) (znl a) (zrt a)) := lt_s zca_255 zcd_255
theorem zca_257 : ∀ a, a < 257 → lw_tbl[(zmr.getD a (0, 0, 0, 0, 0)).2.1]? = some (.code (zy a) (zbs a) (znl a) (zrt a)) := lt_s zca_256 zcd_256
theorem zca_258 : ∀ a, a < 258 → lw_tbl[(zmr.getD a (0, 0, 0, 0, 0)).2.1]? = some (.code (zy a) (zbs a) (znl a) (zrt a)) := lt_s zca_257 zcd_257
theorem zca_259 : ∀ a, a < 259 → lw_tbl[(zmr.getD a (0, 0, 0, 0, 0)).2.1]? = some (.code (zy a) (zbs a) (znl a) (zrt a)) := lt_s zca_258 zcd_258
theorem zca_260 : ∀ a, a < 260 → lw_tbl[(zmr.getD a (0, 0, 0, 0, 0)).2.1]? = some (.code (zy a) (zbs a) (znl a) (zrt a)) := lt_s zca_259 zcd_259
theorem zca_261 : ∀ a, a < 261 → lw_tbl[(zmr.getD a (0, 0, 0, 0, 0)).2.1]? = some (.code (zy a) (zbs a) (znl a) (zrt a)) := lt_s zca_260 zcd_260
theorem zca_262 : ∀ a, a < 262 → lw_tbl[(zmr.getD a (0, 0, 0, 0, 0)).2.1]? = some (.code (zy a) (zbs a) (znl a) (zrt a)) := lt_s zca_261 zcd_261
theorem zca_263 : ∀ a, a < 263 → lw_tbl[(zmr.getD a (0, 0, 0, 0, 0)).2.1]? = some (.code (zy a) (zbs a) (znl a) (zrt a)) := lt_s zca_262 zcd_262
theorem zca_264 : ∀ a, a < 264 → lw_tbl[(zmr.getD a (0, 0, 0, 0, 0)).2.1]? = some (.code (zy a) (zbs a) (znl a) (zrt a)) := lt_s zca_263 zcd_263
theorem zca_265 : ∀ a, a < 265 → lw_tbl[(zmr.getD a (0, 0, 0, 0, 0)).2.1]? = some (.code (zy a) (zbs a) (znl a) (zrt a)) := lt_s zca_264 zcd_264
theorem zca_266 : ∀ a, a < 266 → lw_tbl[(zmr.getD a (0, 0, 0, 0, 0)).2.1]? = some (.code (zy a) (zbs a) (znl a) (zrt a)) := lt_s zca_265 zcd_265
theorem zca_267 : ∀ a, a < 267 → lw_tbl[(zmr.getD a (0, 0, 0, 0, 0)).2.1]? = some (.code (zy a) (zbs a) (znl a) (zrt a)) := lt_s zca_266 zcd_266
theorem zca_268 : ∀ a, a < 268 → lw_tbl[(zmr.getD a (0, 0, 0, 0, 0)).2.1]? = some (.code (zy a) (zbs a) (znl a) (zrt a)) := lt_s zca_267 zcd_267
theorem zca_269 : ∀ a, a < 269 → lw_tbl[(zmr.getD a (0, 0, 0, 0, 0)).2.1]? = some (.code (zy a) (zbs a) (znl a) (zrt a)) := lt_s zca_268 zcd_268
theorem zca_270 : ∀ a, a < 270 → lw_tbl[(zmr.getD a (0, 0, 0, 0, 0)).2.1]? = some (.code (zy a) (zbs a) (znl a) (zrt a)) := lt_s zca_269 zcd_269
theorem zca_271 : ∀ a, a < 271 → lw_tbl[(zmr.getD a (0, 0, 0, 0, 0)).2.1]? = some (.code (zy a) (zbs a) (znl a) (zrt a)) := lt_s zca_270 zcd_270
theorem zca_272 : ∀ a, a < 272 → lw_tbl[(zmr.getD a (0, 0, 0, 0, 0)).2.1]? = some (.code (zy a) (zbs a) (znl a) (zrt a)) := lt_s zca_271 zcd_271
theorem zca_273 : ∀ a, a < 273 → lw_tbl[(zmr.getD a (0, 0, 0, 0, 0)).2.1]? = some (.code (zy a) (zbs a) (znl a) (zrt a)) := lt_s zca_272 zcd_272
theorem zca_274 : ∀ a, a < 274 → lw_tbl[(zmr.getD a (0, 0, 0, 0, 0)).2.1]? = some (.code (zy a) (zbs a) (znl a) (zrt a)) := lt_s zca_273 zcd_273
theorem zca_275 : ∀ a, a < 275 → lw_tbl[(zmr.getD a (0, 0, 0, 0, 0)).2.1]? = some (.code (zy a) (zbs a) (znl a) (zrt a)) := lt_s zca_274 zcd_274
theorem zca_276 : ∀ a, a < 276 → lw_tbl[(zmr.getD a (0, 0, 0, 0, 0)).2.1]? = some (.code (zy a) (zbs a) (znl a) (zrt a)) := lt_s zca_275 zcd_275
theorem zca_277 : ∀ a, a < 277 → lw_tbl[(zmr.getD a (0, 0, 0, 0, 0)).2.1]? = some (.code (zy a) (zbs a) (znl a) (zrt a)) := lt_s zca_276 zcd_276
theorem zca_278 : ∀ a, a < 278 → lw_tbl[(zmr.getD a (0, 0, 0, 0, 0)).2.1]? = some (.code (zy a) (zbs a) (znl a) (zrt a)) := lt_s zca_277 zcd_277
theorem zca_279 : ∀ a, a < 279 → lw_tbl[(zmr.getD a (0, 0, 0, 0, 0)).2.1]? = some (.code (zy a) (zbs a) (znl a) (zrt a)) := lt_s zca_278 zcd_278
theorem zca_280 : ∀ a, a < 280 → lw_tbl[(zmr.getD a (0, 0, 0, 0, 0)).2.1]? = some (.code (zy a) (zbs a) (znl a) (zrt a)) := lt_s zca_279 zcd_279
theorem zca_281 : ∀ a, a < 281 → lw_tbl[(zmr.getD a (0, 0, 0, 0, 0)).2.1]? = some (.code (zy a) (zbs a) (znl a) (zrt a)) := lt_s zca_280 zcd_280
theorem zca_282 : ∀ a, a < 282 → lw_tbl[(zmr.getD a (0, 0, 0, 0, 0)).2.1]? = some (.code (zy a) (zbs a) (znl a) (zrt a)) := lt_s zca_281 zcd_281
theorem zca_283 : ∀ a, a < 283 → lw_tbl[(zmr.getD a (0, 0, 0, 0, 0)).2.1]? = some (.code (zy a) (zbs a) (znl a) (zrt a)) := lt_s zca_282 zcd_282
