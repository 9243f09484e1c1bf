set_option maxRecDepth 100000 in
theorem mk_56 : mt_56.all (okEnt md_56) = true := by decide +kernel
theorem ok_56 : mt_56.all (okEnt (mdOf 56)) = true := mk_56
set_option maxRecDepth 100000 in
theorem mk_57 : mt_57.all (okEnt md_57) = true := by decide +kernel
theorem ok_57 : mt_57.all (okEnt (mdOf 57)) = true := mk_57
set_option maxRecDepth 100000 in
theorem mk_58 : mt_58.all (okEnt md_58) = true := by decide +kernel
theorem ok_58 : mt_58.all (okEnt (mdOf 58)) = true := mk_58
set_option maxRecDepth 100000 in
theorem mk_59 : mt_59.all (okEnt md_59) = true := by decide +kernel
theorem ok_59 : mt_59.all (okEnt (mdOf 59)) = true := mk_59
set_option maxRecDepth 100000 in
theorem mk_60 : mt_60.all (okEnt md_60) = true := by decide +kernel
theorem ok_60 : mt_60.all (okEnt (mdOf 60)) = true := mk_60
set_option maxRecDepth 100000 in
theorem mk_61 : mt_61.all (okEnt md_61) = true := by decide +kernel
theorem ok_61 : mt_61.all (okEnt (mdOf 61)) = true := mk_61
set_option maxRecDepth 100000 in
theorem mk_62 : mt_62.all (okEnt md_62) = true := by decide +kernel
theorem ok_62 : mt_62.all (okEnt (mdOf 62)) = true := mk_62
set_option maxRecDepth 100000 in
theorem mk_63 : mt_63.all (okEnt md_63) = true := by decide +kernel
theorem ok_63 : mt_63.all (okEnt (mdOf 63)) = true := mk_63
set_option maxRecDepth 100000 in
theorem mk_64 : mt_64.all (okEnt md_64) = true := by decide +kernel
theorem ok_64 : mt_64.all (okEnt (mdOf 64)) = true := mk_64
set_option maxRecDepth 100000 in
theorem mk_65 : mt_65.all (okEnt md_65) = true := by decide +kernel
theorem ok_65 : mt_65.all (okEnt (mdOf 65)) = true := mk_65
set_option maxRecDepth 100000 in
theorem mk_66 : mt_66.all (okEnt md_66) = true := by decide +kernel
theorem ok_66 : mt_66.all (okEnt (mdOf 66)) = true := mk_66
set_option maxRecDepth 100000 in
theorem mk_67 : mt_67.all (okEnt md_67) = true := by decide +kernel
theorem ok_67 : mt_67.all (okEnt (mdOf 67)) = true := mk_67
set_option maxRecDepth 100000 in
theorem mk_68 : mt_68.all (okEnt md_68) = true := by decide +kernel
theorem ok_68 : mt_68.all (okEnt (mdOf 68)) = true := mk_68
set_option maxRecDepth 100000 in
theorem mk_69 : mt_69.all (okEnt md_69) = true := by decide +kernel
theorem ok_69 : mt_69.all (okEnt (mdOf 69)) = true := mk_69
set_option maxRecDepth 100000 in
theorem mk_70 : mt_70.all (okEnt md_70) = true := by decide +kernel
theorem ok_70 : mt_70.all (okEnt (mdOf 70)) = true := mk_70
set_option maxRecDepth 100000 in
theorem mk_71 : mt_71.all (okEnt md_71) = true := by decide +kernel
theorem ok_71 : mt_71.all (okEnt (mdOf 71)) = true := mk_71
set_option maxRecDepth 100000 in
theorem mk_72 : mt_72.all (okEnt md_72) = true := by decide +kernel
theorem ok_72 : mt_72.all (okEnt (mdOf 72)) = true := mk_72
set_option maxRecDepth 100000 in
theorem mk_73 : mt_73.all (okEnt md_73) = true := by decide +kernel
theorem ok_73 : mt_73.all (okEnt (mdOf 73)) = true := mk_73
set_option maxRecDepth 100000 in
theorem mk_74 : mt_74.all (okEnt md_74) = true := by decide +kernel
theorem ok_74 : mt_74.all (okEnt (mdOf 74)) = true := mk_74
set_option maxRecDepth 100000 in
theorem mk_75 : mt_75.all (okEnt md_75) = true := by decide +kernel
theorem ok_75 : mt_75.all (okEnt (mdOf 75)) = true := mk_75
set_option maxRecDepth 100000 in
theorem mk_76 : mt_76.all (okEnt md_76) = true := by decide +kernel
theorem ok_76 : mt_76.all (okEnt (mdOf 76)) = true := mk_76
set_option maxRecDepth 100000 in
theorem mk_77 : mt_77.all (okEnt md_77) = true := by decide +kernel
theorem ok_77 : mt_77.all (okEnt (mdOf 77)) = true := mk_77
set_option maxRecDepth 100000 in
theorem mk_78 : mt_78.all (okEnt md_78) = true := by decide +kernel
theorem ok_78 : mt_78.all (okEnt (mdOf 78)) = true := mk_78
set_option maxRecDepth 100000 in
theorem mk_79 : mt_79.all (okEnt md_79) = true := by decide +kernel
theorem ok_79 : mt_79.all (okEnt (mdOf 79)) = true := mk_79
set_option maxRecDepth 100000 in
theorem mk_80 : mt_80.all (okEnt md_80) = true := by decide +kernel
theorem ok_80 : mt_80.all (okEnt (mdOf 80)) = true := mk_80
set_option maxRecDepth 100000 in
theorem mk_81 : mt_81.all (okEnt md_81) = true := by decide +kernel
theorem ok_81 : mt_81.all (okEnt (mdOf 81)) = true := mk_81
set_option maxRecDepth 100000 in
theorem mk_82 : mt_82.all (okEnt md_82) = true := by decide +kernel
theorem ok_82 : mt_82.all (okEnt (mdOf 82)) = true := mk_82
set_option maxRecDepth 100000 in
theorem mk_83 : mt_83.all (okEnt md_83) = true := by decide +kernel
theorem ok_83 : mt_83.all (okEnt (mdOf 83)) = true := mk_83
set_option maxRecDepth 100000 in
theorem mk_84 : mt_84.all (okEnt md_84) = true := by decide +kernel
theorem ok_84 : mt_84.all (okEnt (mdOf 84)) = true := mk_84
set_option maxRecDepth 100000 in
theorem mk_85 : mt_85.all (okEnt md_85) = true := by decide +kernel
theorem ok_85 : mt_85.all (okEnt (mdOf 85)) = true := mk_85
set_option maxRecDepth 100000 in
theorem mk_86 : mt_86.all (okEnt md_86) = true := by decide +kernel
theorem ok_86 : mt_86.all (okEnt (mdOf 86)) = true := mk_86
set_option maxRecDepth 100000 in
theorem mk_87 : mt_87.all (okEnt md_87) = true := by decide +kernel
theorem ok_87 : mt_87.all (okEnt (mdOf 87)) = true := mk_87
set_option maxRecDepth 100000 in
theorem mk_88 : mt_88.all (okEnt md_88) = true := by decide +kernel
theorem ok_88 : mt_88.all (okEnt (mdOf 88)) = true := mk_88
set_option maxRecDepth 100000 in
theorem mk_89 : mt_89.all (okEnt md_89) = true := by decide +kernel
theorem ok_89 : mt_89.all (okEnt (mdOf 89)) = true := mk_89
set_option maxRecDepth 100000 in
theorem mk_90 : mt_90.all (okEnt md_90) = true := by decide +kernel
theorem ok_90 : mt_90.all (okEnt (mdOf 90)) = true := mk_90
set_option maxRecDepth 100000 in
theorem mk_91 : mt_91.all (okEnt md_91) = true := by decide +kernel
theorem ok_91 : mt_91.all (okEnt (mdOf 91)) = true := mk_91
set_option maxRecDepth 100000 in
theorem mk_92 : mt_92.all (okEnt md_92) = true := by decide +kernel
theorem ok_92 : mt_92.all (okEnt (mdOf 92)) = true := mk_92
set_option maxRecDepth 100000 in
theorem mk_93 : mt_93.all (okEnt md_93) = true := by decide +kernel
theorem ok_93 : mt_93.all (okEnt (mdOf 93)) = true := mk_93
set_option maxRecDepth 100000 in
theorem mk_94 : mt_94.all (okEnt md_94) = true := by decide +kernel
theorem ok_94 : mt_94.all (okEnt (mdOf 94)) = true := mk_94
set_option maxRecDepth 100000 in
theorem mk_95 : mt_95.all (okEnt md_95) = true := by decide +kernel
theorem ok_95 : mt_95.all (okEnt (mdOf 95)) = true := mk_95
set_option maxRecDepth 100000 in
theorem mk_96 : mt_96.all (okEnt md_96) = true := by decide +kernel
theorem ok_96 : mt_96.all (okEnt (mdOf 96)) = true := mk_96
set_option maxRecDepth 100000 in
theorem mk_97 : mt_97.all (okEnt md_97) = true := by decide +kernel
theorem ok_97 : mt_97.all (okEnt (mdOf 97)) = true := mk_97
set_option maxRecDepth 100000 in
theorem mk_98 : mt_98.all (okEnt md_98) = true := by decide +kernel
theorem ok_98 : mt_98.all (okEnt (mdOf 98)) = true := mk_98
set_option maxRecDepth 100000 in
theorem mk_99 : mt_99.all (okEnt md_99) = true := by decide +kernel
theorem ok_99 : mt_99.all (okEnt (mdOf 99)) = true := mk_99
set_option maxRecDepth 100000 in
theorem mk_100 : mt_100.all (okEnt md_100) = true := by decide +kernel
theorem ok_100 : mt_100.all (okEnt (mdOf 100)) = true := mk_100
set_option maxRecDepth 100000 in
theorem mk_101 : mt_101.all (okEnt md_101) = true := by decide +kernel
theorem ok_101 : mt_101.all (okEnt (mdOf 101)) = true := mk_101
set_option maxRecDepth 100000 in
theorem mk_102 : mt_102.all (okEnt md_102) = true := by decide +kernel
theorem ok_102 : mt_102.all (okEnt (mdOf 102)) = true := mk_102
set_option maxRecDepth 100000 in
theorem mk_103 : mt_103.all (okEnt md_103) = true := by decide +kernel
theorem ok_103 : mt_103.all (okEnt (mdOf 103)) = true := mk_103
set_option maxRecDepth 100000 in
theorem mk_104 : mt_104.all (okEnt md_104) = true := by decide +kernel
theorem ok_104 : mt_104.all (okEnt (mdOf 104)) = true := mk_104
set_option maxRecDepth 100000 in
theorem mk_105 : mt_105.all (okEnt md_105) = true := by decide +kernel
theorem ok_105 : mt_105.all (okEnt (mdOf 105)) = true := mk_105
set_option maxRecDepth 100000 in
theorem mk_106 : mt_106.all (okEnt md_106) = true := by decide +kernel
theorem ok_106 : mt_106.all (okEnt (mdOf 106)) = true := mk_106
set_option maxRecDepth 100000 in
theorem mk_107 : mt_107.all (okEnt md_107) = true := by decide +kernel
theorem ok_107 : mt_107.all (okEnt (mdOf 107)) = true := mk_107
set_option maxRecDepth 100000 in
theorem mk_108 : mt_108.all (okEnt md_108) = true := by decide +kernel
theorem ok_108 : mt_108.all (okEnt (mdOf 108)) = true := mk_108
set_option maxRecDepth 100000 in
theorem mk_109 : mt_109.all (okEnt md_109) = true := by decide +kernel
theorem ok_109 : mt_109.all (okEnt (mdOf 109)) = true := mk_109
set_option maxRecDepth 100000 in
theorem mk_110 : mt_110.all (okEnt md_110) = true := by decide +kernel
theorem ok_110 : mt_110.all (okEnt (mdOf 110)) = true := mk_110
set_option maxRecDepth 100000 in
theorem mk_111 : mt_111.all (okEnt md_111) = true := by decide +kernel
theorem ok_111 : mt_111.all (okEnt (mdOf 111)) = true := mk_111
set_option maxRecDepth 100000 in
theorem mk_112 : mt_112.all (okEnt md_112) = true := by decide +kernel
theorem ok_112 : mt_112.all (okEnt (mdOf 112)) = true := mk_112
set_option maxRecDepth 100000 in
theorem mk_113 : mt_113.all (okEnt md_113) = true := by decide +kernel
theorem ok_113 : mt_113.all (okEnt (mdOf 113)) = true := mk_113
set_option maxRecDepth 100000 in
theorem mk_114 : mt_114.all (okEnt md_114) = true := by decide +kernel
theorem ok_114 : mt_114.all (okEnt (mdOf 114)) = true := mk_114
set_option maxRecDepth 100000 in
theorem mk_115 : mt_115.all (okEnt md_115) = true := by decide +kernel
theorem ok_115 : mt_115.all (okEnt (mdOf 115)) = true := mk_115
set_option maxRecDepth 100000 in
theorem mk_116 : mt_116.all (okEnt md_116) = true := by decide +kernel
theorem ok_116 : mt_116.all (okEnt (mdOf 116)) = true := mk_116
set_option maxRecDepth 100000 in
theorem mk_117 : mt_117.all (okEnt md_117) = true := by decide +kernel
theorem ok_117 : mt_117.all (okEnt (mdOf 117)) = true := mk_117
