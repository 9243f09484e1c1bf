/-! The law's cases, and its loop. -/
def offA : Array Int := #[116, 139, 152, 165, 198, 221, 234, 267, 290, 313, 346, 369, 382, 395, 418, 441, 464, 487, 510, 543, 556, 569, 592, 615, 638]
def offL (k : Nat) : Int := (nth [116, 139, 152, 165, 198, 221, 234, 267, 290, 313, 346, 369, 382, 395, 418, 441, 464, 487, 510, 543, 556, 569, 592, 615, 638] k).getD 0
def ltg (k : Nat) : Nat := (nth [148, 171, 184, 197, 230, 253, 266, 299, 322, 345, 378, 401, 414, 427, 450, 473, 496, 519, 542, 575, 588, 601, 624, 647, 670] k).getD 693
theorem tabOk : ∀ k, k < 25 → offA[k]? = some (offL k) ∧ (32 : Int) + offL k = (ltg k : Int) := by decide
section Cases
variable {X : Kx} {b Ln : Nat} {xs : Nat → Int32} {pc i : Nat} {I : Mem} {S : Sta}
theorem case0 (C : LW X b Ln xs) (hi : i + 2 < Ln) {i1 k1 p1 i2 k2 p2 : Nat} {off : Int} (hp : Pair k1 k2 []) (hd1 : ∀ q ∈ [(pc, .aload_n 1, 1), (pc + 1, Instr.invokevirtual i1, 3)], inT q) (hd2 : ∀ q ∈ [(pc + 4, .aload_n 2, 1), (pc + 5, Instr.invokevirtual i2, 3)], inT q) (hd3 : inT (pc + 8, .if_icmp .eq off, 3)) (ht : ((pc + 8 : Nat) : Int) + off = 693) (hk1 : (i1, k1, p1, 0) ∈ lawL) (hk2 : (i2, k2, p2, 0) ∈ lawL)
    (hc1 : ∃ r, vwCl[kd 0]? = some r ∧ r.1 = (mY k1).cls) (hc2 : ∃ r, vwCl[kd 77]? = some r ∧ r.1 = (mY k2).cls) (hb : Both S I) (h : ∀ S' I', Both S' I' → KW X 111 7787 693 (L3 i) [] 111 FM I') : KW X 111 7787 pc (L3 i) [] 111 FM I := by
  refine seg0 C (lc := 1) (id := 0) (Or.inl ⟨rfl, rfl⟩) hd1 hk1 hc1 (Nat.zero_le _) (hp I S hb) (fun r I1 hq => ?_)
  obtain ⟨v, rfl, hq⟩ := hq
  refine seg0 (pc := pc + 4) C (lc := 2) (id := 77) (Or.inr ⟨rfl, rfl⟩) hd2 hk2 hc2 (Nat.le_of_ble_eq_true rfl) hq (fun r2 I2 hq2 => ?_)
  obtain ⟨rfl, S', hb'⟩ := hq2
  exact K_eq (pc := pc + 8) (tgt := 693) C.1 (lawD hd3) ht (h S' I2 hb')
theorem case1 (C : LW X b Ln xs) (hi : i + 2 < Ln) {i1 k1 p1 i2 k2 p2 : Nat} {off : Int} (hp : Pair k1 k2 [(1, .inl (xs (i + 1)).toInt)]) (hd1 : ∀ q ∈ [(pc, .aload_n 1, 1), (pc + 1, .aload_n 0, 1), (pc + 2, .iload_n 3, 1), (pc + 3, .iconst 1, 1), (pc + 4, .iadd, 1), (pc + 5, .iaload, 1), (pc + 6, Instr.invokevirtual i1, 3)], inT q) (hd2 : ∀ q ∈ [(pc + 9, .aload_n 2, 1), (pc + 10, .aload_n 0, 1), (pc + 11, .iload_n 3, 1), (pc + 12, .iconst 1, 1), (pc + 13, .iadd, 1), (pc + 14, .iaload, 1), (pc + 15, Instr.invokevirtual i2, 3)], inT q) (hd3 : inT (pc + 18, .if_icmp .eq off, 3)) (ht : ((pc + 18 : Nat) : Int) + off = 693) (hk1 : (i1, k1, p1, 1) ∈ lawL) (hk2 : (i2, k2, p2, 1) ∈ lawL)
    (hc1 : ∃ r, vwCl[kd 0]? = some r ∧ r.1 = (mY k1).cls) (hc2 : ∃ r, vwCl[kd 77]? = some r ∧ r.1 = (mY k2).cls) (hb : Both S I) (h : ∀ S' I', Both S' I' → KW X 111 7787 693 (L3 i) [] 111 FM I') : KW X 111 7787 pc (L3 i) [] 111 FM I := by
  refine seg1 C hi (lc := 1) (id := 0) (Or.inl ⟨rfl, rfl⟩) hd1 hk1 hc1 (Nat.zero_le _) (hp I S hb) (fun r I1 hq => ?_)
  obtain ⟨v, rfl, hq⟩ := hq
  refine seg1 (pc := pc + 9) C hi (lc := 2) (id := 77) (Or.inr ⟨rfl, rfl⟩) hd2 hk2 hc2 (Nat.le_of_ble_eq_true rfl) hq (fun r2 I2 hq2 => ?_)
  obtain ⟨rfl, S', hb'⟩ := hq2
  exact K_eq (pc := pc + 18) (tgt := 693) C.1 (lawD hd3) ht (h S' I2 hb')
theorem case2 (C : LW X b Ln xs) (hi : i + 2 < Ln) {i1 k1 p1 i2 k2 p2 : Nat} {off : Int} (hp : Pair k1 k2 [(1, .inl (xs (i + 1)).toInt), (2, .inl (xs (i + 2)).toInt)]) (hd1 : ∀ q ∈ [(pc, .aload_n 1, 1), (pc + 1, .aload_n 0, 1), (pc + 2, .iload_n 3, 1), (pc + 3, .iconst 1, 1), (pc + 4, .iadd, 1), (pc + 5, .iaload, 1), (pc + 6, .aload_n 0, 1), (pc + 7, .iload_n 3, 1), (pc + 8, .iconst 2, 1), (pc + 9, .iadd, 1), (pc + 10, .iaload, 1), (pc + 11, Instr.invokevirtual i1, 3)], inT q) (hd2 : ∀ q ∈ [(pc + 14, .aload_n 2, 1), (pc + 15, .aload_n 0, 1), (pc + 16, .iload_n 3, 1), (pc + 17, .iconst 1, 1), (pc + 18, .iadd, 1), (pc + 19, .iaload, 1), (pc + 20, .aload_n 0, 1), (pc + 21, .iload_n 3, 1), (pc + 22, .iconst 2, 1), (pc + 23, .iadd, 1), (pc + 24, .iaload, 1), (pc + 25, Instr.invokevirtual i2, 3)], inT q) (hd3 : inT (pc + 28, .if_icmp .eq off, 3)) (ht : ((pc + 28 : Nat) : Int) + off = 693) (hk1 : (i1, k1, p1, 2) ∈ lawL) (hk2 : (i2, k2, p2, 2) ∈ lawL)
    (hc1 : ∃ r, vwCl[kd 0]? = some r ∧ r.1 = (mY k1).cls) (hc2 : ∃ r, vwCl[kd 77]? = some r ∧ r.1 = (mY k2).cls) (hb : Both S I) (h : ∀ S' I', Both S' I' → KW X 111 7787 693 (L3 i) [] 111 FM I') : KW X 111 7787 pc (L3 i) [] 111 FM I := by
  refine seg2 C hi (lc := 1) (id := 0) (Or.inl ⟨rfl, rfl⟩) hd1 hk1 hc1 (Nat.zero_le _) (hp I S hb) (fun r I1 hq => ?_)
  obtain ⟨v, rfl, hq⟩ := hq
  refine seg2 (pc := pc + 14) C hi (lc := 2) (id := 77) (Or.inr ⟨rfl, rfl⟩) hd2 hk2 hc2 (Nat.le_of_ble_eq_true rfl) hq (fun r2 I2 hq2 => ?_)
  obtain ⟨rfl, S', hb'⟩ := hq2
  exact K_eq (pc := pc + 28) (tgt := 693) C.1 (lawD hd3) ht (h S' I2 hb')
theorem K_table (C : LW X b Ln xs) {w : Int} {st : List AV} {L : List (Nat × AV)} {cells slots n : Nat} {F : Fl} (hcase : ∀ k : Nat, k < 25 → w = (k : Int) → KW X cells slots (ltg k) L st n F I) (hout : KW X cells slots 693 L st n F I) : KW X cells slots 32 L (.inl w :: st) n F I := by
  intro ad H locs ls hM ha hl oL oS
  obtain ⟨ow, oT⟩ := List.forall_mem_cons.mp oS
  have ow : inR w := ow
  have e := toI ow
  have hd : decode code 32 = .ok (.tableswitch 661 0 24 offA, 116) := lawD (by decide +kernel)
  by_cases hw : 0 ≤ w ∧ w ≤ 24
  · obtain ⟨g1, g2⟩ := tabOk w.toNat (by omega)
    refine lv_tableIn (off := offL w.toNat) (tgt := ltg w.toNat) C.1.1.1 C.1.1.2.1 hd (by rw [e]; omega) (by rw [e]; omega) ?_ g2 (hcase w.toNat (by omega) (by omega) ad H locs ls hM ha hl oL oT)
    rw [e, Int.sub_zero]
    exact g1
  · exact lv_tableOut (tgt := 693) C.1.1.1 C.1.1.2.1 hd (by rw [e]; omega) (by decide) (hout ad H locs ls hM ha hl oL oT)
theorem lawc_0 (C : LW X b Ln xs) (hi : i + 2 < Ln) (hb : Both S I) (h : ∀ S' I', Both S' I' → KW X 111 7787 693 (L3 i) [] 111 FM I') : KW X 111 7787 148 (L3 i) [] 111 FM I :=
  case1 (i1 := 13) (k1 := 76) (p1 := 484) (i2 := 17) (k2 := 114) (p2 := 1090) (off := 527) C hi (p_type (xs (i + 1)).toInt) (by decide +kernel) (by decide +kernel) (by decide +kernel) (by decide) (by decide +kernel) (by decide +kernel) ⟨_, rfl, rfl⟩ ⟨_, rfl, rfl⟩ hb h
theorem lawc_1 (C : LW X b Ln xs) (hi : i + 2 < Ln) (hb : Both S I) (h : ∀ S' I', Both S' I' → KW X 111 7787 693 (L3 i) [] 111 FM I') : KW X 111 7787 171 (L3 i) [] 111 FM I :=
  case0 (i1 := 18) (k1 := 77) (p1 := 489) (i2 := 22) (k2 := 115) (p2 := 1097) (off := 514) C hi (p_clear) (by decide +kernel) (by decide +kernel) (by decide +kernel) (by decide) (by decide +kernel) (by decide +kernel) ⟨_, rfl, rfl⟩ ⟨_, rfl, rfl⟩ hb h
theorem lawc_2 (C : LW X b Ln xs) (hi : i + 2 < Ln) (hb : Both S I) (h : ∀ S' I', Both S' I' → KW X 111 7787 693 (L3 i) [] 111 FM I') : KW X 111 7787 184 (L3 i) [] 111 FM I :=
  case0 (i1 := 23) (k1 := 78) (p1 := 493) (i2 := 26) (k2 := 123) (p2 := 1101) (off := 501) C hi (p_reads) (by decide +kernel) (by decide +kernel) (by decide +kernel) (by decide) (by decide +kernel) (by decide +kernel) ⟨_, rfl, rfl⟩ ⟨_, rfl, rfl⟩ hb h
theorem lawc_3 (C : LW X b Ln xs) (hi : i + 2 < Ln) (hb : Both S I) (h : ∀ S' I', Both S' I' → KW X 111 7787 693 (L3 i) [] 111 FM I') : KW X 111 7787 197 (L3 i) [] 111 FM I :=
  case2 (i1 := 27) (k1 := 79) (p1 := 583) (i2 := 31) (k2 := 136) (p2 := 1149) (off := 468) C hi (p_inputs (xs (i + 1)).toInt (xs (i + 2)).toInt) (by decide +kernel) (by decide +kernel) (by decide +kernel) (by decide) (by decide +kernel) (by decide +kernel) ⟨_, rfl, rfl⟩ ⟨_, rfl, rfl⟩ hb h
theorem lawc_4 (C : LW X b Ln xs) (hi : i + 2 < Ln) (hb : Both S I) (h : ∀ S' I', Both S' I' → KW X 111 7787 693 (L3 i) [] 111 FM I') : KW X 111 7787 230 (L3 i) [] 111 FM I :=
  case1 (i1 := 32) (k1 := 80) (p1 := 587) (i2 := 35) (k2 := 150) (p2 := 1157) (off := 445) C hi (p_shrinks (xs (i + 1)).toInt) (by decide +kernel) (by decide +kernel) (by decide +kernel) (by decide) (by decide +kernel) (by decide +kernel) ⟨_, rfl, rfl⟩ ⟨_, rfl, rfl⟩ hb h
theorem lawc_5 (C : LW X b Ln xs) (hi : i + 2 < Ln) (hb : Both S I) (h : ∀ S' I', Both S' I' → KW X 111 7787 693 (L3 i) [] 111 FM I') : KW X 111 7787 253 (L3 i) [] 111 FM I :=
  case0 (i1 := 36) (k1 := 81) (p1 := 688) (i2 := 39) (k2 := 137) (p2 := 1153) (off := 432) C hi (p_undo) (by decide +kernel) (by decide +kernel) (by decide +kernel) (by decide) (by decide +kernel) (by decide +kernel) ⟨_, rfl, rfl⟩ ⟨_, rfl, rfl⟩ hb h
theorem lawc_6 (C : LW X b Ln xs) (hi : i + 2 < Ln) (hb : Both S I) (h : ∀ S' I', Both S' I' → KW X 111 7787 693 (L3 i) [] 111 FM I') : KW X 111 7787 266 (L3 i) [] 111 FM I :=
  case2 (i1 := 40) (k1 := 82) (p1 := 696) (i2 := 43) (k2 := 153) (p2 := 1220) (off := 399) C hi (p_part (xs (i + 1)).toInt (xs (i + 2)).toInt) (by decide +kernel) (by decide +kernel) (by decide +kernel) (by decide) (by decide +kernel) (by decide +kernel) ⟨_, rfl, rfl⟩ ⟨_, rfl, rfl⟩ hb h
theorem lawc_7 (C : LW X b Ln xs) (hi : i + 2 < Ln) (hb : Both S I) (h : ∀ S' I', Both S' I' → KW X 111 7787 693 (L3 i) [] 111 FM I') : KW X 111 7787 299 (L3 i) [] 111 FM I :=
  case1 (i1 := 44) (k1 := 83) (p1 := 705) (i2 := 47) (k2 := 154) (p2 := 1228) (off := 376) C hi (p_told (xs (i + 1)).toInt) (by decide +kernel) (by decide +kernel) (by decide +kernel) (by decide) (by decide +kernel) (by decide +kernel) ⟨_, rfl, rfl⟩ ⟨_, rfl, rfl⟩ hb h
theorem lawc_8 (C : LW X b Ln xs) (hi : i + 2 < Ln) (hb : Both S I) (h : ∀ S' I', Both S' I' → KW X 111 7787 693 (L3 i) [] 111 FM I') : KW X 111 7787 322 (L3 i) [] 111 FM I :=
  case1 (i1 := 48) (k1 := 84) (p1 := 709) (i2 := 51) (k2 := 155) (p2 := 1232) (off := 353) C hi (p_uses (xs (i + 1)).toInt) (by decide +kernel) (by decide +kernel) (by decide +kernel) (by decide) (by decide +kernel) (by decide +kernel) ⟨_, rfl, rfl⟩ ⟨_, rfl, rfl⟩ hb h
theorem lawc_9 (C : LW X b Ln xs) (hi : i + 2 < Ln) (hb : Both S I) (h : ∀ S' I', Both S' I' → KW X 111 7787 693 (L3 i) [] 111 FM I') : KW X 111 7787 345 (L3 i) [] 111 FM I :=
  case2 (i1 := 52) (k1 := 85) (p1 := 716) (i2 := 55) (k2 := 156) (p2 := 1236) (off := 320) C hi (p_function (xs (i + 1)).toInt (xs (i + 2)).toInt) (by decide +kernel) (by decide +kernel) (by decide +kernel) (by decide) (by decide +kernel) (by decide +kernel) ⟨_, rfl, rfl⟩ ⟨_, rfl, rfl⟩ hb h
theorem lawc_10 (C : LW X b Ln xs) (hi : i + 2 < Ln) (hb : Both S I) (h : ∀ S' I', Both S' I' → KW X 111 7787 693 (L3 i) [] 111 FM I') : KW X 111 7787 378 (L3 i) [] 111 FM I :=
  case1 (i1 := 56) (k1 := 86) (p1 := 732) (i2 := 59) (k2 := 157) (p2 := 1248) (off := 297) C hi (p_last (xs (i + 1)).toInt) (by decide +kernel) (by decide +kernel) (by decide +kernel) (by decide) (by decide +kernel) (by decide +kernel) ⟨_, rfl, rfl⟩ ⟨_, rfl, rfl⟩ hb h
theorem lawc_11 (C : LW X b Ln xs) (hi : i + 2 < Ln) (hb : Both S I) (h : ∀ S' I', Both S' I' → KW X 111 7787 693 (L3 i) [] 111 FM I') : KW X 111 7787 401 (L3 i) [] 111 FM I :=
  case0 (i1 := 60) (k1 := 87) (p1 := 737) (i2 := 63) (k2 := 169) (p2 := 1252) (off := 284) C hi (p_run) (by decide +kernel) (by decide +kernel) (by decide +kernel) (by decide) (by decide +kernel) (by decide +kernel) ⟨_, rfl, rfl⟩ ⟨_, rfl, rfl⟩ hb h
theorem lawc_12 (C : LW X b Ln xs) (hi : i + 2 < Ln) (hb : Both S I) (h : ∀ S' I', Both S' I' → KW X 111 7787 693 (L3 i) [] 111 FM I') : KW X 111 7787 414 (L3 i) [] 111 FM I :=
  case0 (i1 := 64) (k1 := 88) (p1 := 813) (i2 := 67) (k2 := 170) (p2 := 1300) (off := 271) C hi (p_status) (by decide +kernel) (by decide +kernel) (by decide +kernel) (by decide) (by decide +kernel) (by decide +kernel) ⟨_, rfl, rfl⟩ ⟨_, rfl, rfl⟩ hb h
theorem lawc_13 (C : LW X b Ln xs) (hi : i + 2 < Ln) (hb : Both S I) (h : ∀ S' I', Both S' I' → KW X 111 7787 693 (L3 i) [] 111 FM I') : KW X 111 7787 427 (L3 i) [] 111 FM I :=
  case1 (i1 := 68) (k1 := 89) (p1 := 817) (i2 := 71) (k2 := 171) (p2 := 1304) (off := 248) C hi (p_cost (xs (i + 1)).toInt) (by decide +kernel) (by decide +kernel) (by decide +kernel) (by decide) (by decide +kernel) (by decide +kernel) ⟨_, rfl, rfl⟩ ⟨_, rfl, rfl⟩ hb h
theorem lawc_14 (C : LW X b Ln xs) (hi : i + 2 < Ln) (hb : Both S I) (h : ∀ S' I', Both S' I' → KW X 111 7787 693 (L3 i) [] 111 FM I') : KW X 111 7787 450 (L3 i) [] 111 FM I :=
  case1 (i1 := 72) (k1 := 90) (p1 := 821) (i2 := 75) (k2 := 172) (p2 := 1308) (off := 225) C hi (p_frames (xs (i + 1)).toInt) (by decide +kernel) (by decide +kernel) (by decide +kernel) (by decide) (by decide +kernel) (by decide +kernel) ⟨_, rfl, rfl⟩ ⟨_, rfl, rfl⟩ hb h
theorem lawc_15 (C : LW X b Ln xs) (hi : i + 2 < Ln) (hb : Both S I) (h : ∀ S' I', Both S' I' → KW X 111 7787 693 (L3 i) [] 111 FM I') : KW X 111 7787 473 (L3 i) [] 111 FM I :=
  case1 (i1 := 76) (k1 := 91) (p1 := 825) (i2 := 79) (k2 := 173) (p2 := 1312) (off := 202) C hi (p_often (xs (i + 1)).toInt) (by decide +kernel) (by decide +kernel) (by decide +kernel) (by decide) (by decide +kernel) (by decide +kernel) ⟨_, rfl, rfl⟩ ⟨_, rfl, rfl⟩ hb h
theorem lawc_16 (C : LW X b Ln xs) (hi : i + 2 < Ln) (hb : Both S I) (h : ∀ S' I', Both S' I' → KW X 111 7787 693 (L3 i) [] 111 FM I') : KW X 111 7787 496 (L3 i) [] 111 FM I :=
  case1 (i1 := 80) (k1 := 92) (p1 := 829) (i2 := 83) (k2 := 151) (p2 := 1212) (off := 179) C hi (p_next (xs (i + 1)).toInt) (by decide +kernel) (by decide +kernel) (by decide +kernel) (by decide) (by decide +kernel) (by decide +kernel) ⟨_, rfl, rfl⟩ ⟨_, rfl, rfl⟩ hb h
theorem lawc_17 (C : LW X b Ln xs) (hi : i + 2 < Ln) (hb : Both S I) (h : ∀ S' I', Both S' I' → KW X 111 7787 693 (L3 i) [] 111 FM I') : KW X 111 7787 519 (L3 i) [] 111 FM I :=
  case1 (i1 := 84) (k1 := 93) (p1 := 834) (i2 := 87) (k2 := 152) (p2 := 1216) (off := 156) C hi (p_shortest (xs (i + 1)).toInt) (by decide +kernel) (by decide +kernel) (by decide +kernel) (by decide) (by decide +kernel) (by decide +kernel) ⟨_, rfl, rfl⟩ ⟨_, rfl, rfl⟩ hb h
theorem lawc_18 (C : LW X b Ln xs) (hi : i + 2 < Ln) (hb : Both S I) (h : ∀ S' I', Both S' I' → KW X 111 7787 693 (L3 i) [] 111 FM I') : KW X 111 7787 542 (L3 i) [] 111 FM I :=
  case2 (i1 := 88) (k1 := 94) (p1 := 838) (i2 := 91) (k2 := 174) (p2 := 1316) (off := 123) C hi (p_comes (xs (i + 1)).toInt (xs (i + 2)).toInt) (by decide +kernel) (by decide +kernel) (by decide +kernel) (by decide) (by decide +kernel) (by decide +kernel) ⟨_, rfl, rfl⟩ ⟨_, rfl, rfl⟩ hb h
theorem lawc_19 (C : LW X b Ln xs) (hi : i + 2 < Ln) (hb : Both S I) (h : ∀ S' I', Both S' I' → KW X 111 7787 693 (L3 i) [] 111 FM I') : KW X 111 7787 575 (L3 i) [] 111 FM I :=
  case0 (i1 := 92) (k1 := 95) (p1 := 842) (i2 := 95) (k2 := 175) (p2 := 1320) (off := 110) C hi (p_forget) (by decide +kernel) (by decide +kernel) (by decide +kernel) (by decide) (by decide +kernel) (by decide +kernel) ⟨_, rfl, rfl⟩ ⟨_, rfl, rfl⟩ hb h
theorem lawc_20 (C : LW X b Ln xs) (hi : i + 2 < Ln) (hb : Both S I) (h : ∀ S' I', Both S' I' → KW X 111 7787 693 (L3 i) [] 111 FM I') : KW X 111 7787 588 (L3 i) [] 111 FM I :=
  case0 (i1 := 96) (k1 := 96) (p1 := 846) (i2 := 99) (k2 := 177) (p2 := 1324) (off := 97) C hi (p_fits) (by decide +kernel) (by decide +kernel) (by decide +kernel) (by decide) (by decide +kernel) (by decide +kernel) ⟨_, rfl, rfl⟩ ⟨_, rfl, rfl⟩ hb h
theorem lawc_21 (C : LW X b Ln xs) (hi : i + 2 < Ln) (hb : Both S I) (h : ∀ S' I', Both S' I' → KW X 111 7787 693 (L3 i) [] 111 FM I') : KW X 111 7787 601 (L3 i) [] 111 FM I :=
  case1 (i1 := 100) (k1 := 97) (p1 := 854) (i2 := 103) (k2 := 178) (p2 := 1332) (off := 74) C hi (p_keep (xs (i + 1)).toInt) (by decide +kernel) (by decide +kernel) (by decide +kernel) (by decide) (by decide +kernel) (by decide +kernel) ⟨_, rfl, rfl⟩ ⟨_, rfl, rfl⟩ hb h
theorem lawc_22 (C : LW X b Ln xs) (hi : i + 2 < Ln) (hb : Both S I) (h : ∀ S' I', Both S' I' → KW X 111 7787 693 (L3 i) [] 111 FM I') : KW X 111 7787 624 (L3 i) [] 111 FM I :=
  case1 (i1 := 104) (k1 := 98) (p1 := 860) (i2 := 107) (k2 := 179) (p2 := 1336) (off := 51) C hi (p_back (xs (i + 1)).toInt) (by decide +kernel) (by decide +kernel) (by decide +kernel) (by decide) (by decide +kernel) (by decide +kernel) ⟨_, rfl, rfl⟩ ⟨_, rfl, rfl⟩ hb h
theorem lawc_23 (C : LW X b Ln xs) (hi : i + 2 < Ln) (hb : Both S I) (h : ∀ S' I', Both S' I' → KW X 111 7787 693 (L3 i) [] 111 FM I') : KW X 111 7787 647 (L3 i) [] 111 FM I :=
  case1 (i1 := 108) (k1 := 99) (p1 := 864) (i2 := 111) (k2 := 180) (p2 := 1340) (off := 28) C hi (p_count (xs (i + 1)).toInt) (by decide +kernel) (by decide +kernel) (by decide +kernel) (by decide) (by decide +kernel) (by decide +kernel) ⟨_, rfl, rfl⟩ ⟨_, rfl, rfl⟩ hb h
theorem lawc_24 (C : LW X b Ln xs) (hi : i + 2 < Ln) (hb : Both S I) (h : ∀ S' I', Both S' I' → KW X 111 7787 693 (L3 i) [] 111 FM I') : KW X 111 7787 670 (L3 i) [] 111 FM I :=
  case1 (i1 := 112) (k1 := 100) (p1 := 876) (i2 := 115) (k2 := 181) (p2 := 1344) (off := 5) C hi (p_input (xs (i + 1)).toInt) (by decide +kernel) (by decide +kernel) (by decide +kernel) (by decide) (by decide +kernel) (by decide +kernel) ⟨_, rfl, rfl⟩ ⟨_, rfl, rfl⟩ hb h
theorem law_step (C : LW X b Ln xs) (hret : KW X 111 7787 699 (L3 i) [] 111 FM I) (hnext : i + 3 ≤ Ln → ∀ S' I', Both S' I' → KW X 111 7787 18 (L3 (i + 3)) [] 111 FM I') (hb : Both S I) (hsm : i ≤ 2000) : KW X 111 7787 18 (L3 i) [] 111 FM I := by
  have hLn := C.2.2.2.2.2.1
  refine K_iload_n (x := (i : Int)) C.1 (lawD (by decide +kernel : inT (18, Instr.iload_n 3, 1))) rfl ?_
  refine K_len (pc := 19) C (by decide +kernel) (by decide +kernel) ?_
  refine K_iconst (pc := 21) (v := 3) C.1 (lawD (by decide +kernel)) ⟨by omega, by omega⟩ ?_
  refine K_isub (pc := 22) C.1 (lawD (by decide +kernel)) ?_
  rw [wrap_of (x := (Ln : Int) - 3) (by omega) (by omega)]
  refine K_gt (pc := 23) (tgt := 699) (off := 676) C.1 (lawD (by decide +kernel)) (by decide) (fun _ => hret) (fun hlt => ?_)
  have hi : i + 2 < Ln := by omega
  have h693 : ∀ S' I', Both S' I' → KW X 111 7787 693 (L3 i) [] 111 FM I' := by
    intro S' I' hb'
    refine K_iinc (i := 3) (v := 3) (x := (i : Int)) C.1 (lawD (by decide +kernel)) (by rw [C.2.2.2.2.2.2.2]; decide) (fun q hq => ?_) rfl ?_
    · rw [C.2.1] at hq
      cases List.mem_singleton.mp hq
      exact ⟨(by decide : (0 : Nat) ≠ 3), rfl⟩
    · rw [wrap_of (x := (i : Int) + 3) (by omega) (by omega)]
      exact K_goto (pc := 696) (off := -678) (tgt := 18) C.1 (lawD (by decide +kernel)) (by decide) (hnext (by omega) S' I' hb')
  refine K_scr0 (pc := 26) C (by omega) (by decide +kernel) (by decide +kernel) (by decide +kernel) ?_
  refine K_bipush (pc := 29) (v := 31) C.1 (lawD (by decide +kernel)) (by omega) (by omega) ?_
  refine K_iand (pc := 31) C.1 (lawD (by decide +kernel)) ?_
  refine K_table C (fun k hk hw => ?_) (h693 S I hb)
  match k, hk with
  | 0, _ => exact lawc_0 C hi hb h693
  | 1, _ => exact lawc_1 C hi hb h693
  | 2, _ => exact lawc_2 C hi hb h693
  | 3, _ => exact lawc_3 C hi hb h693
  | 4, _ => exact lawc_4 C hi hb h693
  | 5, _ => exact lawc_5 C hi hb h693
  | 6, _ => exact lawc_6 C hi hb h693
  | 7, _ => exact lawc_7 C hi hb h693
  | 8, _ => exact lawc_8 C hi hb h693
  | 9, _ => exact lawc_9 C hi hb h693
  | 10, _ => exact lawc_10 C hi hb h693
  | 11, _ => exact lawc_11 C hi hb h693
  | 12, _ => exact lawc_12 C hi hb h693
  | 13, _ => exact lawc_13 C hi hb h693
  | 14, _ => exact lawc_14 C hi hb h693
  | 15, _ => exact lawc_15 C hi hb h693
  | 16, _ => exact lawc_16 C hi hb h693
  | 17, _ => exact lawc_17 C hi hb h693
  | 18, _ => exact lawc_18 C hi hb h693
  | 19, _ => exact lawc_19 C hi hb h693
  | 20, _ => exact lawc_20 C hi hb h693
  | 21, _ => exact lawc_21 C hi hb h693
  | 22, _ => exact lawc_22 C hi hb h693
  | 23, _ => exact lawc_23 C hi hb h693
  | 24, _ => exact lawc_24 C hi hb h693
  | k + 25, hk => exact absurd hk (by omega)
theorem law_top (C : LW X b Ln xs) (hret : ∀ (j : Nat) (I' : Mem), KW X 111 7787 699 (L3 j) [] 111 FM I') : ∀ (d j : Nat), j ≤ 1600 → Ln < j + d → ∀ S I, Both S I → KW X 111 7787 18 (L3 j) [] 111 FM I := by
  have hLn := C.2.2.2.2.2.1
  intro d
  induction d with
  | zero =>
    intro j hj hd S I hb
    exact law_step C (hret j I) (fun h => absurd h (by omega)) hb (by omega)
  | succ d ih =>
    intro j hj hd S I hb
    exact law_step C (hret j I) (fun h S' I' hb' => ih (j + 3) (by omega) (by omega) S' I' hb') hb (by omega)
end Cases
