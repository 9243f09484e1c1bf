/-! The model's turn, kind by kind. K, J: the two memories when the top's stage has gone on. -/
def MT (H : List Hd) (K J : Mem) (k p : Nat) (s : Int) (g L : Nat) : Prop :=
  RS K J (k + 1) L ∧ RO H K J k ∧ RL H K J L ∧ RF K J ∧ (J 101 k = (p : Int) ∧ K 30 k = (p : Int) ∧ J 102 k = (g : Int) + 1 ∧ K 32 k = (g : Int) + 1 ∧ J 103 k = scm s ∧ K 31 k = s) ∧ (g = 2 → isOpr (lt H p) = true → J 104 k = K 33 k) ∧ (g ≠ 0 → J 77 45 = K 26 1) ∧
  (K 26 0 = 0 ∧ K 26 11 = ((k + 1 : Nat) : Int) ∧ K 26 15 = (L : Int) ∧ L < 300 ∧ k < 100 ∧ p < H.length ∧ g ≤ 2) ∧ (0 ≤ K 26 2 ∧ K 26 2 ≤ 300) ∧ (∀ r, r < 60 → 0 ≤ K 27 r ∧ K 27 r ≤ 300) ∧ (0 ≤ K 26 3 ∧ K 26 3 ≤ 1000) ∧ (∀ r, r < 3 → -1000 ≤ K 29 r ∧ K 29 r ≤ 1000) ∧ MAna J H ∧ SI H K (k + 1) L ∧ Sees H K p s ∧ (-1 ≤ s ∧ s < (L : Int))
section Kinds
variable {H : List Hd} {K J : Mem} {k p g L : Nat} {s : Int} {Q : Post}
theorem RO.top {H : List Hd} {K J : Mem} {k p : Nat} {s : Int} (h : RO H K J k) (h1 : J 101 k = (p : Int)) (h2 : K 30 k = (p : Int)) (h3 : J 102 k = K 32 k) (h4 : J 103 k = scm s) (h5 : K 31 k = s) (h6 : isOpr (lt H p) = true → K 32 k = 2 → J 104 k = K 33 k) : RO H K J (k + 1) := by
  intro d hd
  rcases Nat.lt_or_ge d k with hd' | hd'
  · exact h d hd'
  · have : d = k := by omega
    subst this
    refine ⟨by rw [h1, h2], h3, by rw [h4, h5], fun q hq ho h32 => ?_⟩
    have : q = p := by omega
    subst this
    exact h6 ho h32
theorem MT.rm (h : MT H K J k p s g L) (hn : ¬ (isOpr (lt H p) = true ∧ g = 1)) : RM H K J (k + 1) L := by
  obtain ⟨hS, hO, hL, hF, ⟨b1, b2, b3, b4, b5, b6⟩, b7, -⟩ := h
  refine ⟨hS, hO.top b1 b2 (by rw [b3, b4]) b5 b6 (fun ho h32 => ?_), hL, hF⟩
  rw [b4] at h32
  exact absurd ⟨ho, by omega⟩ hn
theorem MT.beg (hH : prog H) (h : MT H K J k p s g L) (hn : ¬ (isOpr (lt H p) = true ∧ g = 1)) {q : Nat} (hq : q < H.length) (hQ : ∀ J', TP H (begF K q s) J J' → Q none J') : R 160 0 [(0, .inr (some 77)), (1, .inl (q : Int)), (2, .inl (scm s))] [] J Q := by
  have h60 := prog_60 hH
  have hr := h.rm hn
  obtain ⟨-, -, -, -, -, -, -, ⟨c1, c2, c3, c4, c5, c6, c7⟩, d1, d2, -⟩ := h
  exact begins_sim hr c1 c2 c3 (by omega) (by omega) d1 d2 rfl hQ
theorem MT.giv (h : MT H K J k p s g L) {v : Int} (hQ : ∀ J', TP H (givF K v) J J' → Q none J') : Q none (upd2 (upd2 J 77 45 v) 77 39 (wrap (upd2 J 77 45 v 77 39 - 1))) := by
  obtain ⟨hS, hO, hL, hF, -, -, -, ⟨c1, c2, c3, c4, c5, c6, c7⟩, -⟩ := h
  have e : upd2 J 77 45 v 77 39 = ((k + 1 : Nat) : Int) := by rw [← hS.1]; simp [upd2]
  refine hQ _ (give_TP hS hO hL hF c1 c2 c3 ?_ ?_ (fun r h1 h2 => ?_) (fun id h1 => ?_))
  · rw [upd2_at, if_pos ⟨rfl, rfl⟩, e, wrap_pred (by omega)]
  · simp [upd2]
  · simp [upd2, h1, h2]
  · rw [upd2_id h1, upd2_id h1]
theorem MT.giv0 (h : MT H K J k p s g L) (hg : g ≠ 0) (hQ : ∀ J', TP H (givF K (K 26 1)) J J' → Q none J') : Q none (upd2 J 77 39 (wrap (J 77 39 - 1))) := by
  obtain ⟨hS, hO, hL, hF, -, -, b8, ⟨c1, c2, c3, c4, c5, c6, c7⟩, -⟩ := h
  refine hQ _ (give_TP hS hO hL hF c1 c2 c3 ?_ ?_ (fun r h1 h2 => ?_) (fun id h1 => ?_))
  · rw [upd2_at, if_pos ⟨rfl, rfl⟩, hS.1, wrap_pred (by omega)]
  · rw [← b8 hg]; simp [upd2]
  · simp [upd2, h1]
  · rw [upd2_id h1]
theorem R_goesSum (hH : prog H) (h : MT H K J k p s g L) (ho : isOpr (lt H p) = true)
    (hQ : ∀ J', TP H (if (g : Int) = 0 then begF K (kp H p 0) s else if (g : Int) = 1 then begF (upd2 K 33 k (K 26 1)) (kp H p 1) s else givF K (oper (lt H p) (K 33 k) (K 26 1))) J J' → Q none J') :
    R 161 0 [(0, .inr (some 77)), (1, .inl (k : Int)), (2, .inl (p : Int))] [] J Q := by
  have hw := prog_wfa hH
  have h60 := prog_60 hH
  obtain ⟨hS, hO, hL, hF, ⟨b1, b2, b3, b4, b5, b6⟩, b7, b8, ⟨c1, c2, c3, c4, c5, c6, c7⟩, d1, d2, d3, d4, hA, hSI, hSe, hs⟩ := id h
  have hpt : pts (lt H p) = 2 := by simp [pts, ho]
  obtain ⟨l1, l2⟩ := hA.let_ hH c6
  have k0 : mkidP (p : Int) 0 ∧ mkid J (p : Int) 0 = (kp H p 0 : Int) := hA.kid hH (j := 0) c6 (by omega)
  have kc : inb (k : Int) 100 := inb_nat c5
  refine t161_0 J _ _ ⟨kc, fun q1 => ⟨kc, fun q2 => ⟨l1, kc, ?_⟩, fun q2 => ⟨kc, ?_⟩⟩, fun q1 => ⟨k0.1, kc, ?_⟩⟩
  · rw [toNat_c, b3] at q1 q2
    dsimp only
    have hg : g = 2 := by omega
    rw [if_neg (by omega), if_neg (by omega), ← b7 hg ho, ← b8 (by omega), ← l2] at hQ
    rw [toNat_c]
    exact h.giv hQ
  · rw [toNat_c, b3] at q1 q2
    have hg : g = 1 := by omega
    rw [if_neg (by omega), if_pos (by omega)] at hQ
    dsimp only
    rw [toNat_c, b8 (by omega)]
    have fr : FrM J (upd2 J 104 k (K 26 1)) := ⟨fun id a b => upd2_id (by omega), fun r _ => by rw [upd2_id (by decide)]⟩
    have hA' := hA.frM fr
    have k1 : mkidP (p : Int) 1 ∧ mkid (upd2 J 104 k (K 26 1)) (p : Int) 1 = (kp H p 1 : Int) := hA'.kid hH (j := 1) c6 (by omega)
    rw [k1.2, upd2_id (show 103 ≠ 104 by decide), b5]
    refine ⟨k1.1, kc, ?_⟩
    have eK : ∀ id, id ≠ 33 → upd2 K 33 k (K 26 1) id = K id := fun id hid => upd2_id hid
    have eJ : ∀ id, id ≠ 104 → upd2 J 104 k (K 26 1) id = J id := fun id hid => upd2_id hid
    have hRM : RM H (upd2 K 33 k (K 26 1)) (upd2 J 104 k (K 26 1)) (k + 1) L := by
      refine ⟨?_, ?_, hL.congr (eK 34 (by decide)) (eK 35 (by decide)) (eK 36 (by decide)) (eJ 105 (by decide)) (eJ 106 (by decide)) (eJ 107 (by decide)), hF.congr (eK 28 (by decide)) (eK 29 (by decide)) (by rw [eJ 77 (by decide)]) (by rw [eJ 77 (by decide)]) (eJ 109 (by decide)) (eJ 110 (by decide))⟩
      · unfold RS
        rw [eK 26 (by decide), eK 27 (by decide), eJ 77 (by decide), eJ 108 (by decide)]
        exact hS
      · refine RO.top (p := p) (s := s) (fun d hd => ?_) (by rw [eJ 101 (by decide)]; exact b1) (by rw [eK 30 (by decide)]; exact b2) (by rw [eJ 102 (by decide), eK 32 (by decide), b3, b4]) (by rw [eJ 103 (by decide)]; exact b5) (by rw [eK 31 (by decide)]; exact b6) (fun _ _ => ?_)
        · rw [eK 30 (by decide), eK 31 (by decide), eK 32 (by decide), eJ 101 (by decide), eJ 102 (by decide), eJ 103 (by decide), upd2_at, upd2_at, if_neg (by omega), if_neg (by omega)]
          exact hO d hd
        · simp [upd2]
    refine begins_sim hRM (by rw [eK 26 (by decide)]; exact c1) (by rw [eK 26 (by decide)]; exact c2) (by rw [eK 26 (by decide)]; exact c3) (by have := kp_len hw c6 (j := 1) (by omega); omega) (by omega) (by rw [eK 26 (by decide)]; exact d1) (by rw [eK 27 (by decide)]; exact d2) rfl (fun J' hJ' => ⟨rfl, hQ J' (hJ'.fr fr)⟩)
  · rw [toNat_c, b3] at q1
    rw [if_pos (by omega)] at hQ
    rw [k0.2, toNat_c, b5]
    exact h.beg hH (by omega) (kp_len hw c6 (by omega)) (fun J' hJ' => ⟨rfl, hQ J' hJ'⟩)
theorem R_goesChoice (hH : prog H) (h : MT H K J k p s g L) (ho : lt H p = 63)
    (hQ : ∀ J', TP H (if (g : Int) = 0 then begF K (kp H p 0) s else if (g : Int) = 1 then begF K (if K 26 1 = 0 then kp H p 1 else kp H p 2) s else givF K (K 26 1)) J J' → Q none J') :
    R 162 0 [(0, .inr (some 77)), (1, .inl (k : Int)), (2, .inl (p : Int))] [] J Q := by
  have hw := prog_wfa hH
  obtain ⟨hS, hO, hL, hF, ⟨b1, b2, b3, b4, b5, b6⟩, b7, b8, ⟨c1, c2, c3, c4, c5, c6, c7⟩, d1, d2, d3, d4, hA, hSI, hSe, hs⟩ := id h
  have hpt : pts (lt H p) = 3 := by rw [ho]; rfl
  have hno : ¬ (isOpr (lt H p) = true ∧ g = 1) := by rw [ho]; exact fun q => absurd q.1 (by decide)
  have k0 : mkidP (p : Int) 0 ∧ mkid J (p : Int) 0 = (kp H p 0 : Int) := hA.kid hH (j := 0) c6 (by omega)
  have k1 : mkidP (p : Int) 1 ∧ mkid J (p : Int) 1 = (kp H p 1 : Int) := hA.kid hH (j := 1) c6 (by omega)
  have k2 : mkidP (p : Int) 2 ∧ mkid J (p : Int) 2 = (kp H p 2 : Int) := hA.kid hH (j := 2) c6 (by omega)
  have kc : inb (k : Int) 100 := inb_nat c5
  refine t162_0 J _ _ ⟨kc, fun q1 => ⟨kc, fun q2 => ?_, fun q2 => ⟨fun q3 => ⟨k2.1, kc, ?_⟩, fun q3 => ⟨k1.1, kc, ?_⟩⟩⟩, fun q1 => ⟨k0.1, kc, ?_⟩⟩
  · rw [toNat_c, b3] at q1 q2
    rw [if_neg (by omega), if_neg (by omega)] at hQ
    exact h.giv0 (by omega) hQ
  · rw [toNat_c, b3] at q1 q2
    rw [b8 (by omega)] at q3
    rw [if_neg (by omega), if_pos (by omega), if_neg q3] at hQ
    rw [k2.2, toNat_c, b5]
    exact h.beg hH hno (kp_len hw c6 (by omega)) (fun J' hJ' => ⟨rfl, hQ J' hJ'⟩)
  · rw [toNat_c, b3] at q1 q2
    rw [b8 (by omega)] at q3
    rw [if_neg (by omega), if_pos (by omega), if_pos (by simpa using q3)] at hQ
    rw [k1.2, toNat_c, b5]
    exact h.beg hH hno (kp_len hw c6 (by omega)) (fun J' hJ' => ⟨rfl, hQ J' hJ'⟩)
  · rw [toNat_c, b3] at q1
    rw [if_pos (by omega)] at hQ
    rw [k0.2, toNat_c, b5]
    exact h.beg hH hno (kp_len hw c6 (by omega)) (fun J' hJ' => ⟨rfl, hQ J' hJ'⟩)
/-- with a new name, an expression begins -/
theorem MT.lbeg (hH : prog H) (h : MT H K J k p s g L) (hn : ¬ (isOpr (lt H p) = true ∧ g = 1)) {q : Nat} (hq : q < H.length) {n v v' : Int} (h1 : isVal n = true → v' = v) (h2 : ∀ p, p < H.length → lt H p = 64 → nm H p = n → v' = (p : Int))
    (hQ : ∀ J', TP H (begF (lnkF K s n v) q (K 26 15)) J J' → Q none J') : R 160 0 [(0, .inr (some 77)), (1, .inl (q : Int)), (2, .inl (wrap (wrap (J 77 43 + 1) - 1)))] [] (mkn J n v' (scm s)) Q := by
  have h60 := prog_60 hH
  have hr := h.rm hn
  obtain ⟨hS, -, -, -, -, -, -, ⟨c1, c2, c3, c4, c5, c6, c7⟩, d1, d2, -⟩ := h
  obtain ⟨r1, r2⟩ := lnk_RM (s := s) (n := n) (v := v) (v' := v') hr c3 c4 rfl h1 h2
  have e43 : wrap (wrap (J 77 43 + 1) - 1) = (L : Int) := by rw [hS.2.1, wrap_succ (by omega), wrap_pred (by omega)]
  rw [e43]
  rw [c3] at hQ
  exact begins_sim r1 (by rw [lnkF_26 (by decide)]; exact c1) (by rw [lnkF_26 (by decide)]; exact c2) (by rw [lnkF_15, c3]; omega) (by omega) (by omega) (by rw [lnkF_26 (by decide)]; exact d1) (by rw [lnkF_id (by decide) (by decide) (by decide) (by decide)]; exact d2) (scm_nat L).symm (fun J' hJ' => hQ J' (hJ'.fr r2))
theorem bind_val {H : List Hd} (he : ex kE H) {p : Nat} (hp : p < H.length) (ho : lt H p = 58) : isVal (nm H p) = true := by
  rcases hd_cases he hp with (q | q | q) | q | q | q | q | q
  · exact absurd ho (isDig_not q).2.2.2.2.2.1
  · exact absurd ho (isInp_not q).2.2.2.2.2.1
  · exact absurd ho (isVal_not q.1).2.2.2.2.2.1
  · exact absurd ho (isOpr_not q).2.2.2.2.2.1
  · omega
  · exact q.2
  · omega
  · omega
theorem val_ne_def {H : List Hd} (he : ex kE H) {n : Int} (hn : isVal n = true) {p : Nat} (hp : p < H.length) (hl : lt H p = 64) : nm H p ≠ n := by
  intro e
  have := (def_fun he hp hl).1
  rw [e, (isVal_not hn).2.2.2.1] at this
  cases this
theorem R_goesNamed (hH : prog H) (h : MT H K J k p s g L) (ho : lt H p = 58)
    (hQ : ∀ J', TP H (if (g : Int) = 0 then begF K (kp H p 0) s else if (g : Int) = 1 then begF (lnkF K s (nm H p) (K 26 1)) (kp H p 1) (K 26 15) else givF K (K 26 1)) J J' → Q none J') :
    R 163 0 [(0, .inr (some 77)), (1, .inl (k : Int)), (2, .inl (p : Int))] [] J Q := by
  have hw := prog_wfa hH
  obtain ⟨hS, hO, hL, hF, ⟨b1, b2, b3, b4, b5, b6⟩, b7, b8, ⟨c1, c2, c3, c4, c5, c6, c7⟩, d1, d2, d3, d4, hA, hSI, hSe, hs⟩ := id h
  have hpt : pts (lt H p) = 2 := by rw [ho]; rfl
  have hno : ¬ (isOpr (lt H p) = true ∧ g = 1) := by rw [ho]; exact fun q => absurd q.1 (by decide)
  have k0 : mkidP (p : Int) 0 ∧ mkid J (p : Int) 0 = (kp H p 0 : Int) := hA.kid hH (j := 0) c6 (by omega)
  have k1 : mkidP (p : Int) 1 ∧ mkid J (p : Int) 1 = (kp H p 1 : Int) := hA.kid hH (j := 1) c6 (by omega)
  obtain ⟨f1, f2⟩ := hA.fun_ hH c6 (by rw [ho]; decide)
  have hv := bind_val hH.1 c6 ho
  have kc : inb (k : Int) 100 := inb_nat c5
  have k43 : inb (J 77 43) 320 := by rw [hS.2.1]; exact inb_nat (by omega)
  refine t163_0 J _ _ ⟨kc, fun q1 => ⟨kc, fun q2 => ?_, fun q2 => ⟨k1.1, f1, kc, k43, ?_⟩⟩, fun q1 => ⟨k0.1, kc, ?_⟩⟩
  · rw [toNat_c, b3] at q1 q2
    rw [if_neg (by omega), if_neg (by omega)] at hQ
    exact h.giv0 (by omega) hQ
  · rw [toNat_c, b3] at q1 q2
    rw [if_neg (by omega), if_pos (by omega)] at hQ
    dsimp only
    rw [k1.2, toNat_c, b5, f2]
    exact h.lbeg hH hno (kp_len hw c6 (by omega)) (fun _ => b8 (by omega)) (fun p' a b c => absurd c (val_ne_def hH.1 hv a b)) (fun J' hJ' => ⟨rfl, hQ J' hJ'⟩)
  · rw [toNat_c, b3] at q1
    rw [if_pos (by omega)] at hQ
    rw [k0.2, toNat_c, b5]
    exact h.beg hH hno (kp_len hw c6 (by omega)) (fun J' hJ' => ⟨rfl, hQ J' hJ'⟩)
theorem R_goesTold (hH : prog H) (h : MT H K J k p s g L) (ho : lt H p = 64)
    (hQ : ∀ J', TP H (if (g : Int) = 0 then begF (lnkF K s (nm H p) 0) (kp H p 1) (K 26 15) else givF K (K 26 1)) J J' → Q none J') :
    R 164 0 [(0, .inr (some 77)), (1, .inl (k : Int)), (2, .inl (p : Int))] [] J Q := by
  have hw := prog_wfa hH
  obtain ⟨hS, hO, hL, hF, ⟨b1, b2, b3, b4, b5, b6⟩, b7, b8, ⟨c1, c2, c3, c4, c5, c6, c7⟩, d1, d2, d3, d4, hA, hSI, hSe, hs⟩ := id h
  have hpt : pts (lt H p) = 2 := by rw [ho]; rfl
  have hno : ¬ (isOpr (lt H p) = true ∧ g = 1) := by rw [ho]; exact fun q => absurd q.1 (by decide)
  have k1 : mkidP (p : Int) 1 ∧ mkid J (p : Int) 1 = (kp H p 1 : Int) := hA.kid hH (j := 1) c6 (by omega)
  obtain ⟨f1, f2⟩ := hA.fun_ hH c6 (by rw [ho]; decide)
  have hfn := (def_fun hH.1 c6 ho).1
  have kc : inb (k : Int) 100 := inb_nat c5
  have k43 : inb (J 77 43) 320 := by rw [hS.2.1]; exact inb_nat (by omega)
  refine t164_0 J _ _ ⟨kc, fun q1 => ?_, fun q1 => ⟨k1.1, f1, kc, k43, ?_⟩⟩
  · rw [toNat_c, b3] at q1
    rw [if_neg (by omega)] at hQ
    exact h.giv0 (by omega) hQ
  · rw [toNat_c, b3] at q1
    rw [if_pos (by omega)] at hQ
    dsimp only
    rw [k1.2, toNat_c, b5, f2]
    refine h.lbeg hH hno (kp_len hw c6 (by omega)) (fun q => ?_) (fun p' a b c => ?_) (fun J' hJ' => ⟨rfl, hQ J' hJ'⟩)
    · rw [(isFun_not hfn).2.2.2.1] at q
      cases q
    · rw [def_uniq hH a c6 b ho c]
end Kinds
