set_option maxRecDepth 100000 in
theorem mk_0 : mt_0.all (okEnt md_0) = true := by decide +kernel
theorem ok_0 : mt_0.all (okEnt (mdOf 0)) = true := mk_0
set_option maxRecDepth 100000 in
theorem mk_1 : mt_1.all (okEnt md_1) = true := by decide +kernel
theorem ok_1 : mt_1.all (okEnt (mdOf 1)) = true := mk_1
set_option maxRecDepth 100000 in
theorem mk_2 : mt_2.all (okEnt md_2) = true := by decide +kernel
theorem ok_2 : mt_2.all (okEnt (mdOf 2)) = true := mk_2
set_option maxRecDepth 100000 in
theorem mk_3 : mt_3.all (okEnt md_3) = true := by decide +kernel
theorem ok_3 : mt_3.all (okEnt (mdOf 3)) = true := mk_3
set_option maxRecDepth 100000 in
theorem mk_4 : mt_4.all (okEnt md_4) = true := by decide +kernel
theorem ok_4 : mt_4.all (okEnt (mdOf 4)) = true := mk_4
set_option maxRecDepth 100000 in
theorem mk_5 : mt_5.all (okEnt md_5) = true := by decide +kernel
theorem ok_5 : mt_5.all (okEnt (mdOf 5)) = true := mk_5
set_option maxRecDepth 100000 in
theorem mk_6 : mt_6.all (okEnt md_6) = true := by decide +kernel
theorem ok_6 : mt_6.all (okEnt (mdOf 6)) = true := mk_6
set_option maxRecDepth 100000 in
theorem mk_7 : mt_7.all (okEnt md_7) = true := by decide +kernel
theorem ok_7 : mt_7.all (okEnt (mdOf 7)) = true := mk_7
set_option maxRecDepth 100000 in
theorem mk_8 : mt_8.all (okEnt md_8) = true := by decide +kernel
theorem ok_8 : mt_8.all (okEnt (mdOf 8)) = true := mk_8
set_option maxRecDepth 100000 in
theorem mk_9 : mt_9.all (okEnt md_9) = true := by decide +kernel
theorem ok_9 : mt_9.all (okEnt (mdOf 9)) = true := mk_9
set_option maxRecDepth 100000 in
theorem mk_10 : mt_10.all (okEnt md_10) = true := by decide +kernel
theorem ok_10 : mt_10.all (okEnt (mdOf 10)) = true := mk_10
set_option maxRecDepth 100000 in
theorem mk_11 : mt_11.all (okEnt md_11) = true := by decide +kernel
theorem ok_11 : mt_11.all (okEnt (mdOf 11)) = true := mk_11
set_option maxRecDepth 100000 in
theorem mk_12 : mt_12.all (okEnt md_12) = true := by decide +kernel
theorem ok_12 : mt_12.all (okEnt (mdOf 12)) = true := mk_12
set_option maxRecDepth 100000 in
theorem mk_13 : mt_13.all (okEnt md_13) = true := by decide +kernel
theorem ok_13 : mt_13.all (okEnt (mdOf 13)) = true := mk_13
set_option maxRecDepth 100000 in
theorem mk_14 : mt_14.all (okEnt md_14) = true := by decide +kernel
theorem ok_14 : mt_14.all (okEnt (mdOf 14)) = true := mk_14
set_option maxRecDepth 100000 in
theorem mk_15 : mt_15.all (okEnt md_15) = true := by decide +kernel
theorem ok_15 : mt_15.all (okEnt (mdOf 15)) = true := mk_15
set_option maxRecDepth 100000 in
theorem mk_16 : mt_16.all (okEnt md_16) = true := by decide +kernel
theorem ok_16 : mt_16.all (okEnt (mdOf 16)) = true := mk_16
set_option maxRecDepth 100000 in
theorem mk_17 : mt_17.all (okEnt md_17) = true := by decide +kernel
theorem ok_17 : mt_17.all (okEnt (mdOf 17)) = true := mk_17
set_option maxRecDepth 100000 in
theorem mk_18 : mt_18.all (okEnt md_18) = true := by decide +kernel
theorem ok_18 : mt_18.all (okEnt (mdOf 18)) = true := mk_18
set_option maxRecDepth 100000 in
theorem mk_19 : mt_19.all (okEnt md_19) = true := by decide +kernel
theorem ok_19 : mt_19.all (okEnt (mdOf 19)) = true := mk_19
set_option maxRecDepth 100000 in
theorem mk_20 : mt_20.all (okEnt md_20) = true := by decide +kernel
theorem ok_20 : mt_20.all (okEnt (mdOf 20)) = true := mk_20
set_option maxRecDepth 100000 in
theorem mk_21 : mt_21.all (okEnt md_21) = true := by decide +kernel
theorem ok_21 : mt_21.all (okEnt (mdOf 21)) = true := mk_21
set_option maxRecDepth 100000 in
theorem mk_22 : mt_22.all (okEnt md_22) = true := by decide +kernel
theorem ok_22 : mt_22.all (okEnt (mdOf 22)) = true := mk_22
set_option maxRecDepth 100000 in
theorem mk_23 : mt_23.all (okEnt md_23) = true := by decide +kernel
theorem ok_23 : mt_23.all (okEnt (mdOf 23)) = true := mk_23
set_option maxRecDepth 100000 in
theorem mk_24 : mt_24.all (okEnt md_24) = true := by decide +kernel
theorem ok_24 : mt_24.all (okEnt (mdOf 24)) = true := mk_24
set_option maxRecDepth 100000 in
theorem mk_25 : mt_25.all (okEnt md_25) = true := by decide +kernel
theorem ok_25 : mt_25.all (okEnt (mdOf 25)) = true := mk_25
set_option maxRecDepth 100000 in
theorem mk_26 : mt_26.all (okEnt md_26) = true := by decide +kernel
theorem ok_26 : mt_26.all (okEnt (mdOf 26)) = true := mk_26
set_option maxRecDepth 100000 in
theorem mk_27 : mt_27.all (okEnt md_27) = true := by decide +kernel
theorem ok_27 : mt_27.all (okEnt (mdOf 27)) = true := mk_27
set_option maxRecDepth 100000 in
theorem mk_28 : mt_28.all (okEnt md_28) = true := by decide +kernel
theorem ok_28 : mt_28.all (okEnt (mdOf 28)) = true := mk_28
set_option maxRecDepth 100000 in
theorem mk_29 : mt_29.all (okEnt md_29) = true := by decide +kernel
theorem ok_29 : mt_29.all (okEnt (mdOf 29)) = true := mk_29
set_option maxRecDepth 100000 in
theorem mk_30 : mt_30.all (okEnt md_30) = true := by decide +kernel
theorem ok_30 : mt_30.all (okEnt (mdOf 30)) = true := mk_30
set_option maxRecDepth 100000 in
theorem mk_31 : mt_31.all (okEnt md_31) = true := by decide +kernel
theorem ok_31 : mt_31.all (okEnt (mdOf 31)) = true := mk_31
set_option maxRecDepth 100000 in
theorem mk_32 : mt_32.all (okEnt md_32) = true := by decide +kernel
theorem ok_32 : mt_32.all (okEnt (mdOf 32)) = true := mk_32
set_option maxRecDepth 100000 in
theorem mk_33 : mt_33.all (okEnt md_33) = true := by decide +kernel
theorem ok_33 : mt_33.all (okEnt (mdOf 33)) = true := mk_33
set_option maxRecDepth 100000 in
theorem mk_34 : mt_34.all (okEnt md_34) = true := by decide +kernel
theorem ok_34 : mt_34.all (okEnt (mdOf 34)) = true := mk_34
set_option maxRecDepth 100000 in
theorem mk_35 : mt_35.all (okEnt md_35) = true := by decide +kernel
theorem ok_35 : mt_35.all (okEnt (mdOf 35)) = true := mk_35
set_option maxRecDepth 100000 in
theorem mk_36 : mt_36.all (okEnt md_36) = true := by decide +kernel
theorem ok_36 : mt_36.all (okEnt (mdOf 36)) = true := mk_36
set_option maxRecDepth 100000 in
theorem mk_37 : mt_37.all (okEnt md_37) = true := by decide +kernel
theorem ok_37 : mt_37.all (okEnt (mdOf 37)) = true := mk_37
set_option maxRecDepth 100000 in
theorem mk_38 : mt_38.all (okEnt md_38) = true := by decide +kernel
theorem ok_38 : mt_38.all (okEnt (mdOf 38)) = true := mk_38
set_option maxRecDepth 100000 in
theorem mk_39 : mt_39.all (okEnt md_39) = true := by decide +kernel
theorem ok_39 : mt_39.all (okEnt (mdOf 39)) = true := mk_39
set_option maxRecDepth 100000 in
theorem mk_40 : mt_40.all (okEnt md_40) = true := by decide +kernel
theorem ok_40 : mt_40.all (okEnt (mdOf 40)) = true := mk_40
set_option maxRecDepth 100000 in
theorem mk_41 : mt_41.all (okEnt md_41) = true := by decide +kernel
theorem ok_41 : mt_41.all (okEnt (mdOf 41)) = true := mk_41
set_option maxRecDepth 100000 in
theorem mk_42 : mt_42.all (okEnt md_42) = true := by decide +kernel
theorem ok_42 : mt_42.all (okEnt (mdOf 42)) = true := mk_42
set_option maxRecDepth 100000 in
theorem mk_43 : mt_43.all (okEnt md_43) = true := by decide +kernel
theorem ok_43 : mt_43.all (okEnt (mdOf 43)) = true := mk_43
set_option maxRecDepth 100000 in
theorem mk_44 : mt_44.all (okEnt md_44) = true := by decide +kernel
theorem ok_44 : mt_44.all (okEnt (mdOf 44)) = true := mk_44
set_option maxRecDepth 100000 in
theorem mk_45 : mt_45.all (okEnt md_45) = true := by decide +kernel
theorem ok_45 : mt_45.all (okEnt (mdOf 45)) = true := mk_45
set_option maxRecDepth 100000 in
theorem mk_46 : mt_46.all (okEnt md_46) = true := by decide +kernel
theorem ok_46 : mt_46.all (okEnt (mdOf 46)) = true := mk_46
set_option maxRecDepth 100000 in
theorem mk_47 : mt_47.all (okEnt md_47) = true := by decide +kernel
theorem ok_47 : mt_47.all (okEnt (mdOf 47)) = true := mk_47
set_option maxRecDepth 100000 in
theorem mk_48 : mt_48.all (okEnt md_48) = true := by decide +kernel
theorem ok_48 : mt_48.all (okEnt (mdOf 48)) = true := mk_48
set_option maxRecDepth 100000 in
theorem mk_49 : mt_49.all (okEnt md_49) = true := by decide +kernel
theorem ok_49 : mt_49.all (okEnt (mdOf 49)) = true := mk_49
set_option maxRecDepth 100000 in
theorem mk_50 : mt_50.all (okEnt md_50) = true := by decide +kernel
theorem ok_50 : mt_50.all (okEnt (mdOf 50)) = true := mk_50
set_option maxRecDepth 100000 in
theorem mk_51 : mt_51.all (okEnt md_51) = true := by decide +kernel
theorem ok_51 : mt_51.all (okEnt (mdOf 51)) = true := mk_51
set_option maxRecDepth 100000 in
theorem mk_52 : mt_52.all (okEnt md_52) = true := by decide +kernel
theorem ok_52 : mt_52.all (okEnt (mdOf 52)) = true := mk_52
set_option maxRecDepth 100000 in
theorem mk_53 : mt_53.all (okEnt md_53) = true := by decide +kernel
theorem ok_53 : mt_53.all (okEnt (mdOf 53)) = true := mk_53
set_option maxRecDepth 100000 in
theorem mk_54 : mt_54.all (okEnt md_54) = true := by decide +kernel
theorem ok_54 : mt_54.all (okEnt (mdOf 54)) = true := mk_54
set_option maxRecDepth 100000 in
theorem mk_55 : mt_55.all (okEnt md_55) = true := by decide +kernel
theorem ok_55 : mt_55.all (okEnt (mdOf 55)) = true := mk_55
