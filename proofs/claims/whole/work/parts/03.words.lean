/-! The tables' words: each method's, each link's, by its place. Only words that go with the machine ('goodWord') are kept: gw. -/
def mdOf (k : Nat) : Md := (nth meths k).getD md_0
def mY (k : Nat) : MethodName := (mdOf k).1
def mC (k : Nat) : ByteArray := (mdOf k).2.1
def mL (k : Nat) : Nat := (mdOf k).2.2.1
def mR (k : Nat) : Option FieldType := (mdOf k).2.2.2.1
def mO (k : Nat) : Nat := (mdOf k).2.2.2.2.1
def mRm (k : Nat) : Room := { frames := (mdOf k).2.2.2.2.2.1, cells := 0, slots := 0, locals := (mdOf k).2.2.2.2.2.2 }
def mP (k : Nat) : Nat × Nat × Nat × Nat × Bool × Nat := (nth mpl k).getD (0, 0, 0, 0, false, 0)
def mN : Nat := 182
def gw : List Cond := lw_tbl.filter goodWord
theorem gw_of {w : Cond} (h : w ∈ lw_tbl) (g : goodWord w = true) : w ∈ gw := List.mem_filter.mpr ⟨h, g⟩
def wsM (k : Nat) : List Cond := Cond.code (mY k) (mC k) (mL k) (mR k) :: gw
def codeW (d : Md) : Cond := Cond.code d.1 d.2.1 d.2.2.1 d.2.2.2.1
set_option maxRecDepth 100000 in
theorem cw_0 : codeW md_0 ∈ lw_tbl := List.mem_of_getElem? (i := 407) rfl
set_option maxRecDepth 100000 in
theorem cw_1 : codeW md_1 ∈ lw_tbl := List.mem_of_getElem? (i := 412) rfl
set_option maxRecDepth 100000 in
theorem cw_2 : codeW md_2 ∈ lw_tbl := List.mem_of_getElem? (i := 417) rfl
set_option maxRecDepth 100000 in
theorem cw_3 : codeW md_3 ∈ lw_tbl := List.mem_of_getElem? (i := 421) rfl
set_option maxRecDepth 100000 in
theorem cw_4 : codeW md_4 ∈ lw_tbl := List.mem_of_getElem? (i := 425) rfl
set_option maxRecDepth 100000 in
theorem cw_5 : codeW md_5 ∈ lw_tbl := List.mem_of_getElem? (i := 437) rfl
set_option maxRecDepth 100000 in
theorem cw_6 : codeW md_6 ∈ lw_tbl := List.mem_of_getElem? (i := 795) rfl
set_option maxRecDepth 100000 in
theorem cw_7 : codeW md_7 ∈ lw_tbl := List.mem_of_getElem? (i := 724) rfl
set_option maxRecDepth 100000 in
theorem cw_8 : codeW md_8 ∈ lw_tbl := List.mem_of_getElem? (i := 433) rfl
set_option maxRecDepth 100000 in
theorem cw_9 : codeW md_9 ∈ lw_tbl := List.mem_of_getElem? (i := 429) rfl
set_option maxRecDepth 100000 in
theorem cw_10 : codeW md_10 ∈ lw_tbl := List.mem_of_getElem? (i := 729) rfl
set_option maxRecDepth 100000 in
theorem cw_11 : codeW md_11 ∈ lw_tbl := List.mem_of_getElem? (i := 871) rfl
set_option maxRecDepth 100000 in
theorem cw_12 : codeW md_12 ∈ lw_tbl := List.mem_of_getElem? (i := 875) rfl
set_option maxRecDepth 100000 in
theorem cw_13 : codeW md_13 ∈ lw_tbl := List.mem_of_getElem? (i := 565) rfl
set_option maxRecDepth 100000 in
theorem cw_14 : codeW md_14 ∈ lw_tbl := List.mem_of_getElem? (i := 695) rfl
set_option maxRecDepth 100000 in
theorem cw_15 : codeW md_15 ∈ lw_tbl := List.mem_of_getElem? (i := 512) rfl
set_option maxRecDepth 100000 in
theorem cw_16 : codeW md_16 ∈ lw_tbl := List.mem_of_getElem? (i := 518) rfl
set_option maxRecDepth 100000 in
theorem cw_17 : codeW md_17 ∈ lw_tbl := List.mem_of_getElem? (i := 529) rfl
set_option maxRecDepth 100000 in
theorem cw_18 : codeW md_18 ∈ lw_tbl := List.mem_of_getElem? (i := 515) rfl
set_option maxRecDepth 100000 in
theorem cw_19 : codeW md_19 ∈ lw_tbl := List.mem_of_getElem? (i := 399) rfl
set_option maxRecDepth 100000 in
theorem cw_20 : codeW md_20 ∈ lw_tbl := List.mem_of_getElem? (i := 396) rfl
set_option maxRecDepth 100000 in
theorem cw_21 : codeW md_21 ∈ lw_tbl := List.mem_of_getElem? (i := 390) rfl
set_option maxRecDepth 100000 in
theorem cw_22 : codeW md_22 ∈ lw_tbl := List.mem_of_getElem? (i := 627) rfl
set_option maxRecDepth 100000 in
theorem cw_23 : codeW md_23 ∈ lw_tbl := List.mem_of_getElem? (i := 525) rfl
set_option maxRecDepth 100000 in
theorem cw_24 : codeW md_24 ∈ lw_tbl := List.mem_of_getElem? (i := 744) rfl
set_option maxRecDepth 100000 in
theorem cw_25 : codeW md_25 ∈ lw_tbl := List.mem_of_getElem? (i := 748) rfl
set_option maxRecDepth 100000 in
theorem cw_26 : codeW md_26 ∈ lw_tbl := List.mem_of_getElem? (i := 753) rfl
set_option maxRecDepth 100000 in
theorem cw_27 : codeW md_27 ∈ lw_tbl := List.mem_of_getElem? (i := 770) rfl
set_option maxRecDepth 100000 in
theorem cw_28 : codeW md_28 ∈ lw_tbl := List.mem_of_getElem? (i := 758) rfl
set_option maxRecDepth 100000 in
theorem cw_29 : codeW md_29 ∈ lw_tbl := List.mem_of_getElem? (i := 763) rfl
set_option maxRecDepth 100000 in
theorem cw_30 : codeW md_30 ∈ lw_tbl := List.mem_of_getElem? (i := 774) rfl
set_option maxRecDepth 100000 in
theorem cw_31 : codeW md_31 ∈ lw_tbl := List.mem_of_getElem? (i := 779) rfl
set_option maxRecDepth 100000 in
theorem cw_32 : codeW md_32 ∈ lw_tbl := List.mem_of_getElem? (i := 787) rfl
set_option maxRecDepth 100000 in
theorem cw_33 : codeW md_33 ∈ lw_tbl := List.mem_of_getElem? (i := 791) rfl
set_option maxRecDepth 100000 in
theorem cw_34 : codeW md_34 ∈ lw_tbl := List.mem_of_getElem? (i := 799) rfl
set_option maxRecDepth 100000 in
theorem cw_35 : codeW md_35 ∈ lw_tbl := List.mem_of_getElem? (i := 783) rfl
set_option maxRecDepth 100000 in
theorem cw_36 : codeW md_36 ∈ lw_tbl := List.mem_of_getElem? (i := 807) rfl
set_option maxRecDepth 100000 in
theorem cw_37 : codeW md_37 ∈ lw_tbl := List.mem_of_getElem? (i := 811) rfl
set_option maxRecDepth 100000 in
theorem cw_38 : codeW md_38 ∈ lw_tbl := List.mem_of_getElem? (i := 576) rfl
set_option maxRecDepth 100000 in
theorem cw_39 : codeW md_39 ∈ lw_tbl := List.mem_of_getElem? (i := 572) rfl
set_option maxRecDepth 100000 in
theorem cw_40 : codeW md_40 ∈ lw_tbl := List.mem_of_getElem? (i := 500) rfl
set_option maxRecDepth 100000 in
theorem cw_41 : codeW md_41 ∈ lw_tbl := List.mem_of_getElem? (i := 505) rfl
set_option maxRecDepth 100000 in
theorem cw_42 : codeW md_42 ∈ lw_tbl := List.mem_of_getElem? (i := 509) rfl
set_option maxRecDepth 100000 in
theorem cw_43 : codeW md_43 ∈ lw_tbl := List.mem_of_getElem? (i := 544) rfl
set_option maxRecDepth 100000 in
theorem cw_44 : codeW md_44 ∈ lw_tbl := List.mem_of_getElem? (i := 552) rfl
set_option maxRecDepth 100000 in
theorem cw_45 : codeW md_45 ∈ lw_tbl := List.mem_of_getElem? (i := 557) rfl
set_option maxRecDepth 100000 in
theorem cw_46 : codeW md_46 ∈ lw_tbl := List.mem_of_getElem? (i := 561) rfl
set_option maxRecDepth 100000 in
theorem cw_47 : codeW md_47 ∈ lw_tbl := List.mem_of_getElem? (i := 522) rfl
set_option maxRecDepth 100000 in
theorem cw_48 : codeW md_48 ∈ lw_tbl := List.mem_of_getElem? (i := 548) rfl
set_option maxRecDepth 100000 in
theorem cw_49 : codeW md_49 ∈ lw_tbl := List.mem_of_getElem? (i := 540) rfl
set_option maxRecDepth 100000 in
theorem cw_50 : codeW md_50 ∈ lw_tbl := List.mem_of_getElem? (i := 533) rfl
set_option maxRecDepth 100000 in
theorem cw_51 : codeW md_51 ∈ lw_tbl := List.mem_of_getElem? (i := 594) rfl
set_option maxRecDepth 100000 in
theorem cw_52 : codeW md_52 ∈ lw_tbl := List.mem_of_getElem? (i := 602) rfl
set_option maxRecDepth 100000 in
theorem cw_53 : codeW md_53 ∈ lw_tbl := List.mem_of_getElem? (i := 606) rfl
set_option maxRecDepth 100000 in
theorem cw_54 : codeW md_54 ∈ lw_tbl := List.mem_of_getElem? (i := 610) rfl
set_option maxRecDepth 100000 in
theorem cw_55 : codeW md_55 ∈ lw_tbl := List.mem_of_getElem? (i := 615) rfl
set_option maxRecDepth 100000 in
theorem cw_56 : codeW md_56 ∈ lw_tbl := List.mem_of_getElem? (i := 631) rfl
set_option maxRecDepth 100000 in
theorem cw_57 : codeW md_57 ∈ lw_tbl := List.mem_of_getElem? (i := 641) rfl
set_option maxRecDepth 100000 in
theorem cw_58 : codeW md_58 ∈ lw_tbl := List.mem_of_getElem? (i := 649) rfl
set_option maxRecDepth 100000 in
theorem cw_59 : codeW md_59 ∈ lw_tbl := List.mem_of_getElem? (i := 665) rfl
set_option maxRecDepth 100000 in
theorem cw_60 : codeW md_60 ∈ lw_tbl := List.mem_of_getElem? (i := 661) rfl
set_option maxRecDepth 100000 in
theorem cw_61 : codeW md_61 ∈ lw_tbl := List.mem_of_getElem? (i := 677) rfl
set_option maxRecDepth 100000 in
theorem cw_62 : codeW md_62 ∈ lw_tbl := List.mem_of_getElem? (i := 682) rfl
set_option maxRecDepth 100000 in
theorem cw_63 : codeW md_63 ∈ lw_tbl := List.mem_of_getElem? (i := 686) rfl
set_option maxRecDepth 100000 in
theorem cw_64 : codeW md_64 ∈ lw_tbl := List.mem_of_getElem? (i := 673) rfl
set_option maxRecDepth 100000 in
theorem cw_65 : codeW md_65 ∈ lw_tbl := List.mem_of_getElem? (i := 653) rfl
set_option maxRecDepth 100000 in
theorem cw_66 : codeW md_66 ∈ lw_tbl := List.mem_of_getElem? (i := 657) rfl
set_option maxRecDepth 100000 in
theorem cw_67 : codeW md_67 ∈ lw_tbl := List.mem_of_getElem? (i := 380) rfl
set_option maxRecDepth 100000 in
theorem cw_68 : codeW md_68 ∈ lw_tbl := List.mem_of_getElem? (i := 384) rfl
set_option maxRecDepth 100000 in
theorem cw_69 : codeW md_69 ∈ lw_tbl := List.mem_of_getElem? (i := 403) rfl
set_option maxRecDepth 100000 in
theorem cw_70 : codeW md_70 ∈ lw_tbl := List.mem_of_getElem? (i := 703) rfl
set_option maxRecDepth 100000 in
theorem cw_71 : codeW md_71 ∈ lw_tbl := List.mem_of_getElem? (i := 619) rfl
set_option maxRecDepth 100000 in
theorem cw_72 : codeW md_72 ∈ lw_tbl := List.mem_of_getElem? (i := 623) rfl
set_option maxRecDepth 100000 in
theorem cw_73 : codeW md_73 ∈ lw_tbl := List.mem_of_getElem? (i := 669) rfl
set_option maxRecDepth 100000 in
theorem cw_74 : codeW md_74 ∈ lw_tbl := List.mem_of_getElem? (i := 635) rfl
set_option maxRecDepth 100000 in
theorem cw_75 : codeW md_75 ∈ lw_tbl := List.mem_of_getElem? (i := 645) rfl
set_option maxRecDepth 100000 in
theorem cw_76 : codeW md_76 ∈ lw_tbl := List.mem_of_getElem? (i := 487) rfl
set_option maxRecDepth 100000 in
theorem cw_77 : codeW md_77 ∈ lw_tbl := List.mem_of_getElem? (i := 492) rfl
set_option maxRecDepth 100000 in
theorem cw_78 : codeW md_78 ∈ lw_tbl := List.mem_of_getElem? (i := 496) rfl
set_option maxRecDepth 100000 in
theorem cw_79 : codeW md_79 ∈ lw_tbl := List.mem_of_getElem? (i := 586) rfl
set_option maxRecDepth 100000 in
theorem cw_80 : codeW md_80 ∈ lw_tbl := List.mem_of_getElem? (i := 590) rfl
set_option maxRecDepth 100000 in
theorem cw_81 : codeW md_81 ∈ lw_tbl := List.mem_of_getElem? (i := 691) rfl
set_option maxRecDepth 100000 in
theorem cw_82 : codeW md_82 ∈ lw_tbl := List.mem_of_getElem? (i := 699) rfl
set_option maxRecDepth 100000 in
theorem cw_83 : codeW md_83 ∈ lw_tbl := List.mem_of_getElem? (i := 708) rfl
set_option maxRecDepth 100000 in
theorem cw_84 : codeW md_84 ∈ lw_tbl := List.mem_of_getElem? (i := 712) rfl
set_option maxRecDepth 100000 in
theorem cw_85 : codeW md_85 ∈ lw_tbl := List.mem_of_getElem? (i := 719) rfl
set_option maxRecDepth 100000 in
theorem cw_86 : codeW md_86 ∈ lw_tbl := List.mem_of_getElem? (i := 735) rfl
set_option maxRecDepth 100000 in
theorem cw_87 : codeW md_87 ∈ lw_tbl := List.mem_of_getElem? (i := 740) rfl
set_option maxRecDepth 100000 in
theorem cw_88 : codeW md_88 ∈ lw_tbl := List.mem_of_getElem? (i := 816) rfl
set_option maxRecDepth 100000 in
theorem cw_89 : codeW md_89 ∈ lw_tbl := List.mem_of_getElem? (i := 820) rfl
set_option maxRecDepth 100000 in
theorem cw_90 : codeW md_90 ∈ lw_tbl := List.mem_of_getElem? (i := 824) rfl
set_option maxRecDepth 100000 in
theorem cw_91 : codeW md_91 ∈ lw_tbl := List.mem_of_getElem? (i := 828) rfl
set_option maxRecDepth 100000 in
theorem cw_92 : codeW md_92 ∈ lw_tbl := List.mem_of_getElem? (i := 832) rfl
set_option maxRecDepth 100000 in
theorem cw_93 : codeW md_93 ∈ lw_tbl := List.mem_of_getElem? (i := 837) rfl
set_option maxRecDepth 100000 in
theorem cw_94 : codeW md_94 ∈ lw_tbl := List.mem_of_getElem? (i := 841) rfl
set_option maxRecDepth 100000 in
theorem cw_95 : codeW md_95 ∈ lw_tbl := List.mem_of_getElem? (i := 845) rfl
set_option maxRecDepth 100000 in
theorem cw_96 : codeW md_96 ∈ lw_tbl := List.mem_of_getElem? (i := 849) rfl
set_option maxRecDepth 100000 in
theorem cw_97 : codeW md_97 ∈ lw_tbl := List.mem_of_getElem? (i := 857) rfl
set_option maxRecDepth 100000 in
theorem cw_98 : codeW md_98 ∈ lw_tbl := List.mem_of_getElem? (i := 863) rfl
set_option maxRecDepth 100000 in
theorem cw_99 : codeW md_99 ∈ lw_tbl := List.mem_of_getElem? (i := 867) rfl
set_option maxRecDepth 100000 in
theorem cw_100 : codeW md_100 ∈ lw_tbl := List.mem_of_getElem? (i := 879) rfl
set_option maxRecDepth 100000 in
theorem cw_101 : codeW md_101 ∈ lw_tbl := List.mem_of_getElem? (i := 376) rfl
set_option maxRecDepth 100000 in
theorem cw_102 : codeW md_102 ∈ lw_tbl := List.mem_of_getElem? (i := 853) rfl
set_option maxRecDepth 100000 in
theorem cw_103 : codeW md_103 ∈ lw_tbl := List.mem_of_getElem? (i := 387) rfl
set_option maxRecDepth 100000 in
theorem cw_104 : codeW md_104 ∈ lw_tbl := List.mem_of_getElem? (i := 393) rfl
set_option maxRecDepth 100000 in
theorem cw_105 : codeW md_105 ∈ lw_tbl := List.mem_of_getElem? (i := 568) rfl
set_option maxRecDepth 100000 in
theorem cw_106 : codeW md_106 ∈ lw_tbl := List.mem_of_getElem? (i := 1096) rfl
set_option maxRecDepth 100000 in
theorem cw_107 : codeW md_107 ∈ lw_tbl := List.mem_of_getElem? (i := 1119) rfl
set_option maxRecDepth 100000 in
theorem cw_108 : codeW md_108 ∈ lw_tbl := List.mem_of_getElem? (i := 1125) rfl
set_option maxRecDepth 100000 in
theorem cw_109 : codeW md_109 ∈ lw_tbl := List.mem_of_getElem? (i := 1122) rfl
set_option maxRecDepth 100000 in
theorem cw_110 : codeW md_110 ∈ lw_tbl := List.mem_of_getElem? (i := 1136) rfl
set_option maxRecDepth 100000 in
theorem cw_111 : codeW md_111 ∈ lw_tbl := List.mem_of_getElem? (i := 906) rfl
set_option maxRecDepth 100000 in
theorem cw_112 : codeW md_112 ∈ lw_tbl := List.mem_of_getElem? (i := 903) rfl
set_option maxRecDepth 100000 in
theorem cw_113 : codeW md_113 ∈ lw_tbl := List.mem_of_getElem? (i := 900) rfl
set_option maxRecDepth 100000 in
theorem cw_114 : codeW md_114 ∈ lw_tbl := List.mem_of_getElem? (i := 1093) rfl
set_option maxRecDepth 100000 in
theorem cw_115 : codeW md_115 ∈ lw_tbl := List.mem_of_getElem? (i := 1100) rfl
set_option maxRecDepth 100000 in
theorem cw_116 : codeW md_116 ∈ lw_tbl := List.mem_of_getElem? (i := 1108) rfl
set_option maxRecDepth 100000 in
theorem cw_117 : codeW md_117 ∈ lw_tbl := List.mem_of_getElem? (i := 1144) rfl
set_option maxRecDepth 100000 in
theorem cw_118 : codeW md_118 ∈ lw_tbl := List.mem_of_getElem? (i := 1116) rfl
set_option maxRecDepth 100000 in
theorem cw_119 : codeW md_119 ∈ lw_tbl := List.mem_of_getElem? (i := 1129) rfl
set_option maxRecDepth 100000 in
theorem cw_120 : codeW md_120 ∈ lw_tbl := List.mem_of_getElem? (i := 1133) rfl
set_option maxRecDepth 100000 in
theorem cw_121 : codeW md_121 ∈ lw_tbl := List.mem_of_getElem? (i := 1140) rfl
set_option maxRecDepth 100000 in
theorem cw_122 : codeW md_122 ∈ lw_tbl := List.mem_of_getElem? (i := 1112) rfl
set_option maxRecDepth 100000 in
theorem cw_123 : codeW md_123 ∈ lw_tbl := List.mem_of_getElem? (i := 1104) rfl
set_option maxRecDepth 100000 in
theorem cw_124 : codeW md_124 ∈ lw_tbl := List.mem_of_getElem? (i := 897) rfl
set_option maxRecDepth 100000 in
theorem cw_125 : codeW md_125 ∈ lw_tbl := List.mem_of_getElem? (i := 1172) rfl
set_option maxRecDepth 100000 in
theorem cw_126 : codeW md_126 ∈ lw_tbl := List.mem_of_getElem? (i := 893) rfl
set_option maxRecDepth 100000 in
theorem cw_127 : codeW md_127 ∈ lw_tbl := List.mem_of_getElem? (i := 889) rfl
set_option maxRecDepth 100000 in
theorem cw_128 : codeW md_128 ∈ lw_tbl := List.mem_of_getElem? (i := 1227) rfl
set_option maxRecDepth 100000 in
theorem cw_129 : codeW md_129 ∈ lw_tbl := List.mem_of_getElem? (i := 914) rfl
set_option maxRecDepth 100000 in
theorem cw_130 : codeW md_130 ∈ lw_tbl := List.mem_of_getElem? (i := 922) rfl
set_option maxRecDepth 100000 in
theorem cw_131 : codeW md_131 ∈ lw_tbl := List.mem_of_getElem? (i := 1243) rfl
set_option maxRecDepth 100000 in
theorem cw_132 : codeW md_132 ∈ lw_tbl := List.mem_of_getElem? (i := 918) rfl
set_option maxRecDepth 100000 in
theorem cw_133 : codeW md_133 ∈ lw_tbl := List.mem_of_getElem? (i := 910) rfl
set_option maxRecDepth 100000 in
theorem cw_134 : codeW md_134 ∈ lw_tbl := List.mem_of_getElem? (i := 1247) rfl
set_option maxRecDepth 100000 in
theorem cw_135 : codeW md_135 ∈ lw_tbl := List.mem_of_getElem? (i := 1148) rfl
set_option maxRecDepth 100000 in
theorem cw_136 : codeW md_136 ∈ lw_tbl := List.mem_of_getElem? (i := 1152) rfl
set_option maxRecDepth 100000 in
theorem cw_137 : codeW md_137 ∈ lw_tbl := List.mem_of_getElem? (i := 1156) rfl
set_option maxRecDepth 100000 in
theorem cw_138 : codeW md_138 ∈ lw_tbl := List.mem_of_getElem? (i := 1183) rfl
set_option maxRecDepth 100000 in
theorem cw_139 : codeW md_139 ∈ lw_tbl := List.mem_of_getElem? (i := 1179) rfl
set_option maxRecDepth 100000 in
theorem cw_140 : codeW md_140 ∈ lw_tbl := List.mem_of_getElem? (i := 1176) rfl
set_option maxRecDepth 100000 in
theorem cw_141 : codeW md_141 ∈ lw_tbl := List.mem_of_getElem? (i := 1168) rfl
set_option maxRecDepth 100000 in
theorem cw_142 : codeW md_142 ∈ lw_tbl := List.mem_of_getElem? (i := 1164) rfl
set_option maxRecDepth 100000 in
theorem cw_143 : codeW md_143 ∈ lw_tbl := List.mem_of_getElem? (i := 1195) rfl
set_option maxRecDepth 100000 in
theorem cw_144 : codeW md_144 ∈ lw_tbl := List.mem_of_getElem? (i := 1191) rfl
set_option maxRecDepth 100000 in
theorem cw_145 : codeW md_145 ∈ lw_tbl := List.mem_of_getElem? (i := 1199) rfl
set_option maxRecDepth 100000 in
theorem cw_146 : codeW md_146 ∈ lw_tbl := List.mem_of_getElem? (i := 1203) rfl
set_option maxRecDepth 100000 in
theorem cw_147 : codeW md_147 ∈ lw_tbl := List.mem_of_getElem? (i := 1211) rfl
set_option maxRecDepth 100000 in
theorem cw_148 : codeW md_148 ∈ lw_tbl := List.mem_of_getElem? (i := 1207) rfl
set_option maxRecDepth 100000 in
theorem cw_149 : codeW md_149 ∈ lw_tbl := List.mem_of_getElem? (i := 1187) rfl
set_option maxRecDepth 100000 in
theorem cw_150 : codeW md_150 ∈ lw_tbl := List.mem_of_getElem? (i := 1160) rfl
set_option maxRecDepth 100000 in
theorem cw_151 : codeW md_151 ∈ lw_tbl := List.mem_of_getElem? (i := 1215) rfl
set_option maxRecDepth 100000 in
theorem cw_152 : codeW md_152 ∈ lw_tbl := List.mem_of_getElem? (i := 1219) rfl
set_option maxRecDepth 100000 in
theorem cw_153 : codeW md_153 ∈ lw_tbl := List.mem_of_getElem? (i := 1223) rfl
set_option maxRecDepth 100000 in
theorem cw_154 : codeW md_154 ∈ lw_tbl := List.mem_of_getElem? (i := 1231) rfl
set_option maxRecDepth 100000 in
theorem cw_155 : codeW md_155 ∈ lw_tbl := List.mem_of_getElem? (i := 1235) rfl
set_option maxRecDepth 100000 in
theorem cw_156 : codeW md_156 ∈ lw_tbl := List.mem_of_getElem? (i := 1239) rfl
set_option maxRecDepth 100000 in
theorem cw_157 : codeW md_157 ∈ lw_tbl := List.mem_of_getElem? (i := 1251) rfl
set_option maxRecDepth 100000 in
theorem cw_158 : codeW md_158 ∈ lw_tbl := List.mem_of_getElem? (i := 1283) rfl
set_option maxRecDepth 100000 in
theorem cw_159 : codeW md_159 ∈ lw_tbl := List.mem_of_getElem? (i := 1299) rfl
set_option maxRecDepth 100000 in
theorem cw_160 : codeW md_160 ∈ lw_tbl := List.mem_of_getElem? (i := 1263) rfl
set_option maxRecDepth 100000 in
theorem cw_161 : codeW md_161 ∈ lw_tbl := List.mem_of_getElem? (i := 1271) rfl
set_option maxRecDepth 100000 in
theorem cw_162 : codeW md_162 ∈ lw_tbl := List.mem_of_getElem? (i := 1275) rfl
set_option maxRecDepth 100000 in
theorem cw_163 : codeW md_163 ∈ lw_tbl := List.mem_of_getElem? (i := 1279) rfl
set_option maxRecDepth 100000 in
theorem cw_164 : codeW md_164 ∈ lw_tbl := List.mem_of_getElem? (i := 1287) rfl
set_option maxRecDepth 100000 in
theorem cw_165 : codeW md_165 ∈ lw_tbl := List.mem_of_getElem? (i := 1295) rfl
set_option maxRecDepth 100000 in
theorem cw_166 : codeW md_166 ∈ lw_tbl := List.mem_of_getElem? (i := 1291) rfl
set_option maxRecDepth 100000 in
theorem cw_167 : codeW md_167 ∈ lw_tbl := List.mem_of_getElem? (i := 1267) rfl
set_option maxRecDepth 100000 in
theorem cw_168 : codeW md_168 ∈ lw_tbl := List.mem_of_getElem? (i := 1259) rfl
set_option maxRecDepth 100000 in
theorem cw_169 : codeW md_169 ∈ lw_tbl := List.mem_of_getElem? (i := 1255) rfl
set_option maxRecDepth 100000 in
theorem cw_170 : codeW md_170 ∈ lw_tbl := List.mem_of_getElem? (i := 1303) rfl
set_option maxRecDepth 100000 in
theorem cw_171 : codeW md_171 ∈ lw_tbl := List.mem_of_getElem? (i := 1307) rfl
set_option maxRecDepth 100000 in
theorem cw_172 : codeW md_172 ∈ lw_tbl := List.mem_of_getElem? (i := 1311) rfl
set_option maxRecDepth 100000 in
theorem cw_173 : codeW md_173 ∈ lw_tbl := List.mem_of_getElem? (i := 1315) rfl
set_option maxRecDepth 100000 in
theorem cw_174 : codeW md_174 ∈ lw_tbl := List.mem_of_getElem? (i := 1319) rfl
set_option maxRecDepth 100000 in
theorem cw_175 : codeW md_175 ∈ lw_tbl := List.mem_of_getElem? (i := 1323) rfl
set_option maxRecDepth 100000 in
theorem cw_176 : codeW md_176 ∈ lw_tbl := List.mem_of_getElem? (i := 1331) rfl
set_option maxRecDepth 100000 in
theorem cw_177 : codeW md_177 ∈ lw_tbl := List.mem_of_getElem? (i := 1327) rfl
set_option maxRecDepth 100000 in
theorem cw_178 : codeW md_178 ∈ lw_tbl := List.mem_of_getElem? (i := 1335) rfl
set_option maxRecDepth 100000 in
theorem cw_179 : codeW md_179 ∈ lw_tbl := List.mem_of_getElem? (i := 1339) rfl
set_option maxRecDepth 100000 in
theorem cw_180 : codeW md_180 ∈ lw_tbl := List.mem_of_getElem? (i := 1343) rfl
set_option maxRecDepth 100000 in
theorem cw_181 : codeW md_181 ∈ lw_tbl := List.mem_of_getElem? (i := 1347) rfl
theorem cwl_0 : ∀ d ∈ [md_0, md_1, md_2, md_3, md_4, md_5, md_6, md_7, md_8, md_9, md_10, md_11, md_12, md_13, md_14, md_15, md_16, md_17, md_18, md_19, md_20, md_21, md_22, md_23, md_24, md_25, md_26, md_27, md_28, md_29], codeW d ∈ lw_tbl := List.forall_mem_cons.mpr ⟨cw_0, List.forall_mem_cons.mpr ⟨cw_1, List.forall_mem_cons.mpr ⟨cw_2, List.forall_mem_cons.mpr ⟨cw_3, List.forall_mem_cons.mpr ⟨cw_4, List.forall_mem_cons.mpr ⟨cw_5, List.forall_mem_cons.mpr ⟨cw_6, List.forall_mem_cons.mpr ⟨cw_7, List.forall_mem_cons.mpr ⟨cw_8, List.forall_mem_cons.mpr ⟨cw_9, List.forall_mem_cons.mpr ⟨cw_10, List.forall_mem_cons.mpr ⟨cw_11, List.forall_mem_cons.mpr ⟨cw_12, List.forall_mem_cons.mpr ⟨cw_13, List.forall_mem_cons.mpr ⟨cw_14, List.forall_mem_cons.mpr ⟨cw_15, List.forall_mem_cons.mpr ⟨cw_16, List.forall_mem_cons.mpr ⟨cw_17, List.forall_mem_cons.mpr ⟨cw_18, List.forall_mem_cons.mpr ⟨cw_19, List.forall_mem_cons.mpr ⟨cw_20, List.forall_mem_cons.mpr ⟨cw_21, List.forall_mem_cons.mpr ⟨cw_22, List.forall_mem_cons.mpr ⟨cw_23, List.forall_mem_cons.mpr ⟨cw_24, List.forall_mem_cons.mpr ⟨cw_25, List.forall_mem_cons.mpr ⟨cw_26, List.forall_mem_cons.mpr ⟨cw_27, List.forall_mem_cons.mpr ⟨cw_28, List.forall_mem_cons.mpr ⟨cw_29, fun _ h => absurd h List.not_mem_nil⟩⟩⟩⟩⟩⟩⟩⟩⟩⟩⟩⟩⟩⟩⟩⟩⟩⟩⟩⟩⟩⟩⟩⟩⟩⟩⟩⟩⟩⟩
theorem cwl_1 : ∀ d ∈ [md_30, md_31, md_32, md_33, md_34, md_35, md_36, md_37, md_38, md_39, md_40, md_41, md_42, md_43, md_44, md_45, md_46, md_47, md_48, md_49, md_50, md_51, md_52, md_53, md_54, md_55, md_56, md_57, md_58, md_59], codeW d ∈ lw_tbl := List.forall_mem_cons.mpr ⟨cw_30, List.forall_mem_cons.mpr ⟨cw_31, List.forall_mem_cons.mpr ⟨cw_32, List.forall_mem_cons.mpr ⟨cw_33, List.forall_mem_cons.mpr ⟨cw_34, List.forall_mem_cons.mpr ⟨cw_35, List.forall_mem_cons.mpr ⟨cw_36, List.forall_mem_cons.mpr ⟨cw_37, List.forall_mem_cons.mpr ⟨cw_38, List.forall_mem_cons.mpr ⟨cw_39, List.forall_mem_cons.mpr ⟨cw_40, List.forall_mem_cons.mpr ⟨cw_41, List.forall_mem_cons.mpr ⟨cw_42, List.forall_mem_cons.mpr ⟨cw_43, List.forall_mem_cons.mpr ⟨cw_44, List.forall_mem_cons.mpr ⟨cw_45, List.forall_mem_cons.mpr ⟨cw_46, List.forall_mem_cons.mpr ⟨cw_47, List.forall_mem_cons.mpr ⟨cw_48, List.forall_mem_cons.mpr ⟨cw_49, List.forall_mem_cons.mpr ⟨cw_50, List.forall_mem_cons.mpr ⟨cw_51, List.forall_mem_cons.mpr ⟨cw_52, List.forall_mem_cons.mpr ⟨cw_53, List.forall_mem_cons.mpr ⟨cw_54, List.forall_mem_cons.mpr ⟨cw_55, List.forall_mem_cons.mpr ⟨cw_56, List.forall_mem_cons.mpr ⟨cw_57, List.forall_mem_cons.mpr ⟨cw_58, List.forall_mem_cons.mpr ⟨cw_59, fun _ h => absurd h List.not_mem_nil⟩⟩⟩⟩⟩⟩⟩⟩⟩⟩⟩⟩⟩⟩⟩⟩⟩⟩⟩⟩⟩⟩⟩⟩⟩⟩⟩⟩⟩⟩
theorem cwl_2 : ∀ d ∈ [md_60, md_61, md_62, md_63, md_64, md_65, md_66, md_67, md_68, md_69, md_70, md_71, md_72, md_73, md_74, md_75, md_76, md_77, md_78, md_79, md_80, md_81, md_82, md_83, md_84, md_85, md_86, md_87, md_88, md_89], codeW d ∈ lw_tbl := List.forall_mem_cons.mpr ⟨cw_60, List.forall_mem_cons.mpr ⟨cw_61, List.forall_mem_cons.mpr ⟨cw_62, List.forall_mem_cons.mpr ⟨cw_63, List.forall_mem_cons.mpr ⟨cw_64, List.forall_mem_cons.mpr ⟨cw_65, List.forall_mem_cons.mpr ⟨cw_66, List.forall_mem_cons.mpr ⟨cw_67, List.forall_mem_cons.mpr ⟨cw_68, List.forall_mem_cons.mpr ⟨cw_69, List.forall_mem_cons.mpr ⟨cw_70, List.forall_mem_cons.mpr ⟨cw_71, List.forall_mem_cons.mpr ⟨cw_72, List.forall_mem_cons.mpr ⟨cw_73, List.forall_mem_cons.mpr ⟨cw_74, List.forall_mem_cons.mpr ⟨cw_75, List.forall_mem_cons.mpr ⟨cw_76, List.forall_mem_cons.mpr ⟨cw_77, List.forall_mem_cons.mpr ⟨cw_78, List.forall_mem_cons.mpr ⟨cw_79, List.forall_mem_cons.mpr ⟨cw_80, List.forall_mem_cons.mpr ⟨cw_81, List.forall_mem_cons.mpr ⟨cw_82, List.forall_mem_cons.mpr ⟨cw_83, List.forall_mem_cons.mpr ⟨cw_84, List.forall_mem_cons.mpr ⟨cw_85, List.forall_mem_cons.mpr ⟨cw_86, List.forall_mem_cons.mpr ⟨cw_87, List.forall_mem_cons.mpr ⟨cw_88, List.forall_mem_cons.mpr ⟨cw_89, fun _ h => absurd h List.not_mem_nil⟩⟩⟩⟩⟩⟩⟩⟩⟩⟩⟩⟩⟩⟩⟩⟩⟩⟩⟩⟩⟩⟩⟩⟩⟩⟩⟩⟩⟩⟩
theorem cwl_3 : ∀ d ∈ [md_90, md_91, md_92, md_93, md_94, md_95, md_96, md_97, md_98, md_99, md_100, md_101, md_102, md_103, md_104, md_105, md_106, md_107, md_108, md_109, md_110, md_111, md_112, md_113, md_114, md_115, md_116, md_117, md_118, md_119], codeW d ∈ lw_tbl := List.forall_mem_cons.mpr ⟨cw_90, List.forall_mem_cons.mpr ⟨cw_91, List.forall_mem_cons.mpr ⟨cw_92, List.forall_mem_cons.mpr ⟨cw_93, List.forall_mem_cons.mpr ⟨cw_94, List.forall_mem_cons.mpr ⟨cw_95, List.forall_mem_cons.mpr ⟨cw_96, List.forall_mem_cons.mpr ⟨cw_97, List.forall_mem_cons.mpr ⟨cw_98, List.forall_mem_cons.mpr ⟨cw_99, List.forall_mem_cons.mpr ⟨cw_100, List.forall_mem_cons.mpr ⟨cw_101, List.forall_mem_cons.mpr ⟨cw_102, List.forall_mem_cons.mpr ⟨cw_103, List.forall_mem_cons.mpr ⟨cw_104, List.forall_mem_cons.mpr ⟨cw_105, List.forall_mem_cons.mpr ⟨cw_106, List.forall_mem_cons.mpr ⟨cw_107, List.forall_mem_cons.mpr ⟨cw_108, List.forall_mem_cons.mpr ⟨cw_109, List.forall_mem_cons.mpr ⟨cw_110, List.forall_mem_cons.mpr ⟨cw_111, List.forall_mem_cons.mpr ⟨cw_112, List.forall_mem_cons.mpr ⟨cw_113, List.forall_mem_cons.mpr ⟨cw_114, List.forall_mem_cons.mpr ⟨cw_115, List.forall_mem_cons.mpr ⟨cw_116, List.forall_mem_cons.mpr ⟨cw_117, List.forall_mem_cons.mpr ⟨cw_118, List.forall_mem_cons.mpr ⟨cw_119, fun _ h => absurd h List.not_mem_nil⟩⟩⟩⟩⟩⟩⟩⟩⟩⟩⟩⟩⟩⟩⟩⟩⟩⟩⟩⟩⟩⟩⟩⟩⟩⟩⟩⟩⟩⟩
theorem cwl_4 : ∀ d ∈ [md_120, md_121, md_122, md_123, md_124, md_125, md_126, md_127, md_128, md_129, md_130, md_131, md_132, md_133, md_134, md_135, md_136, md_137, md_138, md_139, md_140, md_141, md_142, md_143, md_144, md_145, md_146, md_147, md_148, md_149], codeW d ∈ lw_tbl := List.forall_mem_cons.mpr ⟨cw_120, List.forall_mem_cons.mpr ⟨cw_121, List.forall_mem_cons.mpr ⟨cw_122, List.forall_mem_cons.mpr ⟨cw_123, List.forall_mem_cons.mpr ⟨cw_124, List.forall_mem_cons.mpr ⟨cw_125, List.forall_mem_cons.mpr ⟨cw_126, List.forall_mem_cons.mpr ⟨cw_127, List.forall_mem_cons.mpr ⟨cw_128, List.forall_mem_cons.mpr ⟨cw_129, List.forall_mem_cons.mpr ⟨cw_130, List.forall_mem_cons.mpr ⟨cw_131, List.forall_mem_cons.mpr ⟨cw_132, List.forall_mem_cons.mpr ⟨cw_133, List.forall_mem_cons.mpr ⟨cw_134, List.forall_mem_cons.mpr ⟨cw_135, List.forall_mem_cons.mpr ⟨cw_136, List.forall_mem_cons.mpr ⟨cw_137, List.forall_mem_cons.mpr ⟨cw_138, List.forall_mem_cons.mpr ⟨cw_139, List.forall_mem_cons.mpr ⟨cw_140, List.forall_mem_cons.mpr ⟨cw_141, List.forall_mem_cons.mpr ⟨cw_142, List.forall_mem_cons.mpr ⟨cw_143, List.forall_mem_cons.mpr ⟨cw_144, List.forall_mem_cons.mpr ⟨cw_145, List.forall_mem_cons.mpr ⟨cw_146, List.forall_mem_cons.mpr ⟨cw_147, List.forall_mem_cons.mpr ⟨cw_148, List.forall_mem_cons.mpr ⟨cw_149, fun _ h => absurd h List.not_mem_nil⟩⟩⟩⟩⟩⟩⟩⟩⟩⟩⟩⟩⟩⟩⟩⟩⟩⟩⟩⟩⟩⟩⟩⟩⟩⟩⟩⟩⟩⟩
theorem cwl_5 : ∀ d ∈ [md_150, md_151, md_152, md_153, md_154, md_155, md_156, md_157, md_158, md_159, md_160, md_161, md_162, md_163, md_164, md_165, md_166, md_167, md_168, md_169, md_170, md_171, md_172, md_173, md_174, md_175, md_176, md_177, md_178, md_179], codeW d ∈ lw_tbl := List.forall_mem_cons.mpr ⟨cw_150, List.forall_mem_cons.mpr ⟨cw_151, List.forall_mem_cons.mpr ⟨cw_152, List.forall_mem_cons.mpr ⟨cw_153, List.forall_mem_cons.mpr ⟨cw_154, List.forall_mem_cons.mpr ⟨cw_155, List.forall_mem_cons.mpr ⟨cw_156, List.forall_mem_cons.mpr ⟨cw_157, List.forall_mem_cons.mpr ⟨cw_158, List.forall_mem_cons.mpr ⟨cw_159, List.forall_mem_cons.mpr ⟨cw_160, List.forall_mem_cons.mpr ⟨cw_161, List.forall_mem_cons.mpr ⟨cw_162, List.forall_mem_cons.mpr ⟨cw_163, List.forall_mem_cons.mpr ⟨cw_164, List.forall_mem_cons.mpr ⟨cw_165, List.forall_mem_cons.mpr ⟨cw_166, List.forall_mem_cons.mpr ⟨cw_167, List.forall_mem_cons.mpr ⟨cw_168, List.forall_mem_cons.mpr ⟨cw_169, List.forall_mem_cons.mpr ⟨cw_170, List.forall_mem_cons.mpr ⟨cw_171, List.forall_mem_cons.mpr ⟨cw_172, List.forall_mem_cons.mpr ⟨cw_173, List.forall_mem_cons.mpr ⟨cw_174, List.forall_mem_cons.mpr ⟨cw_175, List.forall_mem_cons.mpr ⟨cw_176, List.forall_mem_cons.mpr ⟨cw_177, List.forall_mem_cons.mpr ⟨cw_178, List.forall_mem_cons.mpr ⟨cw_179, fun _ h => absurd h List.not_mem_nil⟩⟩⟩⟩⟩⟩⟩⟩⟩⟩⟩⟩⟩⟩⟩⟩⟩⟩⟩⟩⟩⟩⟩⟩⟩⟩⟩⟩⟩⟩
theorem cwl_6 : ∀ d ∈ [md_180, md_181], codeW d ∈ lw_tbl := List.forall_mem_cons.mpr ⟨cw_180, List.forall_mem_cons.mpr ⟨cw_181, fun _ h => absurd h List.not_mem_nil⟩⟩
set_option maxRecDepth 100000 in
theorem cw_all : ∀ d ∈ meths, codeW d ∈ lw_tbl := by
  show ∀ d ∈ [md_0, md_1, md_2, md_3, md_4, md_5, md_6, md_7, md_8, md_9, md_10, md_11, md_12, md_13, md_14, md_15, md_16, md_17, md_18, md_19, md_20, md_21, md_22, md_23, md_24, md_25, md_26, md_27, md_28, md_29] ++ ([md_30, md_31, md_32, md_33, md_34, md_35, md_36, md_37, md_38, md_39, md_40, md_41, md_42, md_43, md_44, md_45, md_46, md_47, md_48, md_49, md_50, md_51, md_52, md_53, md_54, md_55, md_56, md_57, md_58, md_59] ++ ([md_60, md_61, md_62, md_63, md_64, md_65, md_66, md_67, md_68, md_69, md_70, md_71, md_72, md_73, md_74, md_75, md_76, md_77, md_78, md_79, md_80, md_81, md_82, md_83, md_84, md_85, md_86, md_87, md_88, md_89] ++ ([md_90, md_91, md_92, md_93, md_94, md_95, md_96, md_97, md_98, md_99, md_100, md_101, md_102, md_103, md_104, md_105, md_106, md_107, md_108, md_109, md_110, md_111, md_112, md_113, md_114, md_115, md_116, md_117, md_118, md_119] ++ ([md_120, md_121, md_122, md_123, md_124, md_125, md_126, md_127, md_128, md_129, md_130, md_131, md_132, md_133, md_134, md_135, md_136, md_137, md_138, md_139, md_140, md_141, md_142, md_143, md_144, md_145, md_146, md_147, md_148, md_149] ++ ([md_150, md_151, md_152, md_153, md_154, md_155, md_156, md_157, md_158, md_159, md_160, md_161, md_162, md_163, md_164, md_165, md_166, md_167, md_168, md_169, md_170, md_171, md_172, md_173, md_174, md_175, md_176, md_177, md_178, md_179] ++ ([md_180, md_181])))))), codeW d ∈ lw_tbl
  exact List.forall_mem_append.mpr ⟨cwl_0, List.forall_mem_append.mpr ⟨cwl_1, List.forall_mem_append.mpr ⟨cwl_2, List.forall_mem_append.mpr ⟨cwl_3, List.forall_mem_append.mpr ⟨cwl_4, List.forall_mem_append.mpr ⟨cwl_5, cwl_6⟩⟩⟩⟩⟩⟩
theorem md_in {k : Nat} (h : k < mN) : mdOf k ∈ meths := by
  have h2 : k < meths.length := h
  have e : nth meths k = some (meths[k]) := by rw [nth_eq]; exact List.getElem?_eq_getElem h2
  unfold mdOf
  rw [e]
  exact List.getElem_mem h2
def mchk (k : Nat) : Bool :=
  decide (lw_tbl[(mP k).2.1]? = some (Cond.initialized (mY k).cls)) &&
  decide (lw_tbl[(mP k).2.2.1]? = some (if (mP k).2.2.2.2.1 = true then Cond.static (mY k) else Cond.instanceMethod (mY k))) &&
  ((mP k).2.2.2.2.1 || decide (lw_tbl[(mP k).2.2.2.1]? = some (Cond.selects (mY k).cls (mY k) (mY k)))) &&
  decide ((parseMethodDescriptor (mY k).desc).map (fun d => d.parameters.length) = some (mP k).2.2.2.2.2) &&
  decide (cnm (mO k) = (mY k).cls) && plainName (mY k).cls && decide ((mY k).cls ≠ "java/lang/invoke/MethodHandle") && decide ((mY k).cls ≠ "java/lang/invoke/VarHandle")
set_option maxRecDepth 100000 in
theorem mchk_0 : [0, 1, 2, 3, 4, 5, 6, 7, 8, 9, 10, 11, 12, 13, 14, 15, 16, 17, 18, 19, 20, 21, 22, 23, 24, 25, 26, 27, 28, 29].all mchk = true := by decide +kernel
set_option maxRecDepth 100000 in
theorem mchk_1 : [30, 31, 32, 33, 34, 35, 36, 37, 38, 39, 40, 41, 42, 43, 44, 45, 46, 47, 48, 49, 50, 51, 52, 53, 54, 55, 56, 57, 58, 59].all mchk = true := by decide +kernel
set_option maxRecDepth 100000 in
theorem mchk_2 : [60, 61, 62, 63, 64, 65, 66, 67, 68, 69, 70, 71, 72, 73, 74, 75, 76, 77, 78, 79, 80, 81, 82, 83, 84, 85, 86, 87, 88, 89].all mchk = true := by decide +kernel
set_option maxRecDepth 100000 in
theorem mchk_3 : [90, 91, 92, 93, 94, 95, 96, 97, 98, 99, 100, 101, 102, 103, 104, 105, 106, 107, 108, 109, 110, 111, 112, 113, 114, 115, 116, 117, 118, 119].all mchk = true := by decide +kernel
set_option maxRecDepth 100000 in
theorem mchk_4 : [120, 121, 122, 123, 124, 125, 126, 127, 128, 129, 130, 131, 132, 133, 134, 135, 136, 137, 138, 139, 140, 141, 142, 143, 144, 145, 146, 147, 148, 149].all mchk = true := by decide +kernel
set_option maxRecDepth 100000 in
theorem mchk_5 : [150, 151, 152, 153, 154, 155, 156, 157, 158, 159, 160, 161, 162, 163, 164, 165, 166, 167, 168, 169, 170, 171, 172, 173, 174, 175, 176, 177, 178, 179].all mchk = true := by decide +kernel
set_option maxRecDepth 100000 in
theorem mchk_6 : [180, 181].all mchk = true := by decide +kernel
theorem mchk_all : ∀ k, k < mN → mchk k = true := by
  intro k hk
  have h : k ∈ [0, 1, 2, 3, 4, 5, 6, 7, 8, 9, 10, 11, 12, 13, 14, 15, 16, 17, 18, 19, 20, 21, 22, 23, 24, 25, 26, 27, 28, 29] ++ ([30, 31, 32, 33, 34, 35, 36, 37, 38, 39, 40, 41, 42, 43, 44, 45, 46, 47, 48, 49, 50, 51, 52, 53, 54, 55, 56, 57, 58, 59] ++ ([60, 61, 62, 63, 64, 65, 66, 67, 68, 69, 70, 71, 72, 73, 74, 75, 76, 77, 78, 79, 80, 81, 82, 83, 84, 85, 86, 87, 88, 89] ++ ([90, 91, 92, 93, 94, 95, 96, 97, 98, 99, 100, 101, 102, 103, 104, 105, 106, 107, 108, 109, 110, 111, 112, 113, 114, 115, 116, 117, 118, 119] ++ ([120, 121, 122, 123, 124, 125, 126, 127, 128, 129, 130, 131, 132, 133, 134, 135, 136, 137, 138, 139, 140, 141, 142, 143, 144, 145, 146, 147, 148, 149] ++ ([150, 151, 152, 153, 154, 155, 156, 157, 158, 159, 160, 161, 162, 163, 164, 165, 166, 167, 168, 169, 170, 171, 172, 173, 174, 175, 176, 177, 178, 179] ++ ([180, 181])))))) := (show ∀ k ∈ List.range mN, k ∈ _ from by decide +kernel) k (List.mem_range.mpr hk)
  exact (List.forall_mem_append.mpr ⟨List.all_eq_true.mp mchk_0, List.forall_mem_append.mpr ⟨List.all_eq_true.mp mchk_1, List.forall_mem_append.mpr ⟨List.all_eq_true.mp mchk_2, List.forall_mem_append.mpr ⟨List.all_eq_true.mp mchk_3, List.forall_mem_append.mpr ⟨List.all_eq_true.mp mchk_4, List.forall_mem_append.mpr ⟨List.all_eq_true.mp mchk_5, List.all_eq_true.mp mchk_6⟩⟩⟩⟩⟩⟩ : ∀ k ∈ [0, 1, 2, 3, 4, 5, 6, 7, 8, 9, 10, 11, 12, 13, 14, 15, 16, 17, 18, 19, 20, 21, 22, 23, 24, 25, 26, 27, 28, 29] ++ ([30, 31, 32, 33, 34, 35, 36, 37, 38, 39, 40, 41, 42, 43, 44, 45, 46, 47, 48, 49, 50, 51, 52, 53, 54, 55, 56, 57, 58, 59] ++ ([60, 61, 62, 63, 64, 65, 66, 67, 68, 69, 70, 71, 72, 73, 74, 75, 76, 77, 78, 79, 80, 81, 82, 83, 84, 85, 86, 87, 88, 89] ++ ([90, 91, 92, 93, 94, 95, 96, 97, 98, 99, 100, 101, 102, 103, 104, 105, 106, 107, 108, 109, 110, 111, 112, 113, 114, 115, 116, 117, 118, 119] ++ ([120, 121, 122, 123, 124, 125, 126, 127, 128, 129, 130, 131, 132, 133, 134, 135, 136, 137, 138, 139, 140, 141, 142, 143, 144, 145, 146, 147, 148, 149] ++ ([150, 151, 152, 153, 154, 155, 156, 157, 158, 159, 160, 161, 162, 163, 164, 165, 166, 167, 168, 169, 170, 171, 172, 173, 174, 175, 176, 177, 178, 179] ++ ([180, 181])))))), mchk k = true) k h
def fchk (q : Nat × Nat × Nat × Nat × Nat) : Bool := match vwCl[q.2.2.1]? with
  | none => false
  | some r => decide (q.2.2.2.1 < r.2.2) && decide (lw_tbl[q.2.2.2.2]? = some (Cond.fieldLink (cnm q.1) q.2.1 r.1 (r.2.1 q.2.2.2.1).2.1 (r.2.1 q.2.2.2.1).2.2.1)) && decide ((r.2.1 q.2.2.2.1).1 = r.1)
set_option maxRecDepth 100000 in
theorem fchk_all : ftab.all fchk = true := by decide +kernel
def cchk (q : Nat × Nat × Nat × Nat × Nat) : Bool := decide (q.2.2.1 < mN) && decide (lw_tbl[q.2.2.2.2]? = some (if q.2.2.2.1 = 1 then Cond.methodLinkNest (cnm q.1) q.2.1 (mY q.2.2.1) "OneReturns" else Cond.methodLink (cnm q.1) q.2.1 (mY q.2.2.1)))
set_option maxRecDepth 100000 in
theorem cchk_all : ctab.all cchk = true := by decide +kernel
def xchk (q : Nat × Nat × Nat × Nat) : Bool := decide (lw_tbl[q.2.2.2]? = some (Cond.methodLink (cnm q.1) q.2.1 (if q.2.2.1 = 1000 then Lib.Math.min.name else Lib.Math.max.name)))
set_option maxRecDepth 100000 in
theorem xchk_all : mtab.all xchk = true := by decide +kernel
set_option maxRecDepth 100000 in
theorem math_words : Cond.static Lib.Math.min.name ∈ gw ∧ Cond.static Lib.Math.max.name ∈ gw ∧ Cond.initialized "java/lang/Math" ∈ gw ∧ Cond.code Lib.Math.min.name Lib.Math.min.code 2 (some .int) ∈ gw ∧ Cond.code Lib.Math.max.name Lib.Math.max.code 2 (some .int) ∈ gw :=
  ⟨gw_of (List.mem_of_getElem? (i := 578) rfl) rfl, gw_of (List.mem_of_getElem? (i := 801) rfl) rfl, gw_of (List.mem_of_getElem? (i := 97) rfl) rfl, gw_of (List.mem_of_getElem? (i := 579) rfl) rfl, gw_of (List.mem_of_getElem? (i := 802) rfl) rfl⟩
/-- the classes' own words -/
theorem i_X0 : ∀ w ∈ wsX00, w ∈ gw := by decide +kernel
theorem i_X1 : ∀ w ∈ wsX10, w ∈ gw := by decide +kernel
theorem i_X3 : ∀ w ∈ wsX30, w ∈ gw := by decide +kernel
theorem i_X4 : ∀ w ∈ wsX40, w ∈ gw := by decide +kernel
theorem i_X5 : ∀ w ∈ wsX50, w ∈ gw := by decide +kernel
theorem i_X6 : ∀ w ∈ wsX60, w ∈ gw := by decide +kernel
theorem i_X7 : ∀ w ∈ wsX70, w ∈ gw := by decide +kernel
theorem i_X8 : ∀ w ∈ wsX80, w ∈ gw := by decide +kernel
theorem i_X9 : ∀ w ∈ wsX90, w ∈ gw := by decide +kernel
/-- of a class: its words, its fields' types, its fields' names -/
def tyOf (ci : Nat) : Nat → FieldType := (nth [tyX0, tyX1, tyX3, tyX4, tyX5, tyX6, tyX7, tyX8, tyX9] ci).getD tyX0
theorem cl_ok (ci : Nat) (q : vw_C) (h : vwCl[ci]? = some q) : (∀ w ∈ u_ws q.1 q.2.1 q.2.2, w ∈ gw) ∧ (∀ k, k < q.2.2 → parseFieldDescriptor (q.2.1 k).2.2.1 = some (tyOf ci k)) ∧ (∀ a, a < q.2.2 → ∀ b, b < q.2.2 → a ≠ b → (q.2.1 a).2.1 ≠ (q.2.1 b).2.1) := by
  match ci, h with
  | 0, h => cases h; exact ⟨i_X0, tyX0_ok, nmX0⟩
  | 1, h => cases h; exact ⟨i_X1, tyX1_ok, nmX1⟩
  | 2, h => cases h; exact ⟨i_X3, tyX3_ok, nmX3⟩
  | 3, h => cases h; exact ⟨i_X4, tyX4_ok, nmX4⟩
  | 4, h => cases h; exact ⟨i_X5, tyX5_ok, nmX5⟩
  | 5, h => cases h; exact ⟨i_X6, tyX6_ok, nmX6⟩
  | 6, h => cases h; exact ⟨i_X7, tyX7_ok, nmX7⟩
  | 7, h => cases h; exact ⟨i_X8, tyX8_ok, nmX8⟩
  | 8, h => cases h; exact ⟨i_X9, tyX9_ok, nmX9⟩
  | n + 9, h => simp [vwCl] at h
theorem gw_good : ∀ w ∈ gw, (w.onTables && w.keeps) = true ∨ ∃ ty, w = .arrayClass ty := fun _ hw => good_of_word (List.mem_filter.mp hw).2
/-- what the tables say of a method -/
theorem mok {k : Nat} (h : k < mN) : Cond.code (mY k) (mC k) (mL k) (mR k) ∈ gw ∧ Cond.initialized (mY k).cls ∈ gw ∧
    ((mP k).2.2.2.2.1 = true → Cond.static (mY k) ∈ gw) ∧ ((mP k).2.2.2.2.1 = false → Cond.instanceMethod (mY k) ∈ gw ∧ Cond.selects (mY k).cls (mY k) (mY k) ∈ gw) ∧
    (parseMethodDescriptor (mY k).desc).map (fun d => d.parameters.length) = some (mP k).2.2.2.2.2 ∧ cnm (mO k) = (mY k).cls ∧ plainName (mY k).cls = true ∧
    ((mY k).cls ≠ "java/lang/invoke/MethodHandle" ∧ (mY k).cls ≠ "java/lang/invoke/VarHandle") := by
  have h1 := mchk_all k h
  simp only [mchk, Bool.and_eq_true, decide_eq_true_eq, Bool.or_eq_true] at h1
  obtain ⟨⟨⟨⟨⟨⟨⟨h2, h3⟩, h4⟩, h5⟩, h6⟩, h7⟩, h8⟩, h9⟩ := h1
  refine ⟨gw_of (cw_all _ (md_in h)) rfl, gw_of (List.mem_of_getElem? h2) rfl, fun hs => ?_, fun hs => ?_, h5, h6, h7, h8, h9⟩
  · rw [if_pos hs] at h3
    exact gw_of (List.mem_of_getElem? h3) rfl
  · rw [if_neg (by rw [hs]; decide)] at h3
    rcases h4 with h4 | h4
    · rw [hs] at h4; cases h4
    · exact ⟨gw_of (List.mem_of_getElem? h3) rfl, gw_of (List.mem_of_getElem? h4) rfl⟩
theorem goodIn_wsM {k : Nat} (h : k < mN) : GoodIn gw (wsM k) := by
  intro w hw
  have hw' : w ∈ gw := by
    rcases List.mem_cons.mp hw with rfl | hw
    · exact (mok h).1
    · exact hw
  exact ⟨hw', gw_good w hw'⟩
