/-! The model's machine against the pure one: what holds between the two. -/
def scm (s : Int) : Int := if s < 0 then -9 else s
theorem scm_nat (n : Nat) : scm (n : Int) = (n : Int) := by unfold scm; rw [if_neg (by omega)]
theorem scm_neg {s : Int} (h : s < 0) : scm s = -9 := by unfold scm; rw [if_pos h]
def RS (σ I : Mem) (o L : Nat) : Prop := I 77 39 = (o : Int) ∧ I 77 43 = (L : Int) ∧ I 77 44 = 0 ∧ I 77 46 = σ 26 2 ∧ I 77 47 = σ 26 3 ∧ I 77 53 = σ 26 16 ∧ I 77 54 = σ 26 17 ∧ ∀ r, r < 60 → I 108 r = σ 27 r
def RO (H : List Hd) (σ I : Mem) (o : Nat) : Prop := ∀ d, d < o → I 101 d = σ 30 d ∧ I 102 d = σ 32 d ∧ I 103 d = scm (σ 31 d) ∧ (∀ p : Nat, σ 30 d = (p : Int) → isOpr (lt H p) = true → σ 32 d = 2 → I 104 d = σ 33 d)
def RL (H : List Hd) (σ I : Mem) (L : Nat) : Prop := ∀ j, j < L → I 105 j = σ 34 j ∧ I 107 j = scm (σ 36 j) ∧ (isVal (σ 34 j) = true → I 106 j = σ 35 j) ∧ (∀ p, p < H.length → lt H p = 64 → nm H p = σ 34 j → I 106 j = (p : Int))
def RF (σ I : Mem) : Prop := I 77 48 = σ 29 0 ∧ I 77 49 = σ 28 0 ∧ ∀ r, r < 3 → I 109 r = σ 29 r ∧ I 110 r = σ 28 r ∧ σ 29 r ≤ σ 28 r
def RM (H : List Hd) (σ I : Mem) (o L : Nat) : Prop := RS σ I o L ∧ RO H σ I o ∧ RL H σ I L ∧ RF σ I
/-- what a run leaves as it was -/
def FrM (I0 I : Mem) : Prop := (∀ id, id ≠ 77 → (id < 101 ∨ 110 < id) → I id = I0 id) ∧ ∀ k, (k < 39 ∨ 54 < k) → I 77 k = I0 77 k
theorem FrM.rfl' {I : Mem} : FrM I I := ⟨fun _ _ _ => rfl, fun _ _ => rfl⟩
theorem FrM.trans {I J K : Mem} (h : FrM I J) (h2 : FrM J K) : FrM I K := ⟨fun id a b => (h2.1 id a b).trans (h.1 id a b), fun k a => (h2.2 k a).trans (h.2 k a)⟩
/-- after a turn -/
def TP (H : List Hd) (τ I0 I : Mem) : Prop := FrM I0 I ∧ ((τ 26 0 = 1 ∧ I 77 44 = 1) ∨ (τ 26 0 = 0 ∧ ∃ o L : Nat, τ 26 11 = (o : Int) ∧ τ 26 15 = (L : Int) ∧ RM H τ I o L ∧ (o = 0 ∨ τ 32 (o - 1) ≠ 0 → I 77 45 = τ 26 1)))
theorem TP.fr {H : List Hd} {τ I0 I1 I : Mem} (h : TP H τ I1 I) (e : FrM I0 I1) : TP H τ I0 I := ⟨e.trans h.1, h.2⟩
theorem RO.congr {H : List Hd} {σ τ I J : Mem} {o : Nat} (h : RO H σ I o) (a0 : τ 30 = σ 30) (a1 : τ 31 = σ 31) (a2 : τ 32 = σ 32) (a3 : τ 33 = σ 33) (b1 : J 101 = I 101) (b2 : J 102 = I 102) (b3 : J 103 = I 103) (b4 : J 104 = I 104) : RO H τ J o := by
  unfold RO
  rw [a0, a1, a2, a3, b1, b2, b3, b4]
  exact h
theorem RL.congr {H : List Hd} {σ τ I J : Mem} {L : Nat} (h : RL H σ I L) (a4 : τ 34 = σ 34) (a5 : τ 35 = σ 35) (a6 : τ 36 = σ 36) (b5 : J 105 = I 105) (b6 : J 106 = I 106) (b7 : J 107 = I 107) : RL H τ J L := by
  unfold RL
  rw [a4, a5, a6, b5, b6, b7]
  exact h
theorem RF.congr {σ τ I J : Mem} (h : RF σ I) (a8 : τ 28 = σ 28) (a9 : τ 29 = σ 29) (b48 : J 77 48 = I 77 48) (b49 : J 77 49 = I 77 49) (b9 : J 109 = I 109) (b10 : J 110 = I 110) : RF τ J := by
  unfold RF
  rw [a8, a9, b48, b49, b9, b10]
  exact h
/-! an expression begins -/
def mbeg (J : Mem) (q o : Nat) (s : Int) : Mem := upd2 (upd2 (upd2 (upd2 (upd2 (upd2 J 77 46 (J 77 46 + 1)) 108 q (J 108 q + 1)) 101 o (q : Int)) 102 o 0) 103 o s) 77 39 ((o : Int) + 1)
theorem R_begins {J : Mem} {q o : Nat} {s : Int} {Q : Post} (hq : q < 60) (h39 : J 77 39 = (o : Int)) (ho : o ≤ 100) (h46 : 0 ≤ J 77 46 ∧ J 77 46 ≤ 300) (h108 : 0 ≤ J 108 q ∧ J 108 q ≤ 300)
    (h1 : J 77 46 = 300 ∨ o = 100 → Q none (upd2 J 77 44 1)) (h2 : ¬ (J 77 46 = 300 ∨ o = 100) → Q none (mbeg J q o s)) : R 160 0 [(0, .inr (some 77)), (1, .inl (q : Int)), (2, .inl s)] [] J Q := by
  refine t160_0 J _ _ ⟨fun c => ⟨Or.inr rfl, h1 (Or.inl c)⟩, fun c => ⟨fun c2 => ?_, fun c2 => ⟨Or.inr rfl, h1 (Or.inr (by omega))⟩⟩⟩
  have hoL : o < 100 := by omega
  have h2 := h2 (by omega)
  dsimp only
  have o1 : ∀ v w, upd2 (upd2 J 77 46 v) 108 q w 77 39 = (o : Int) := fun v w => by rw [← h39]; simp [upd2]
  have o2 : ∀ v w x, upd2 (upd2 (upd2 J 77 46 v) 108 q w) 101 o x 77 39 = (o : Int) := fun v w x => by rw [← h39]; simp [upd2]
  have o3 : ∀ v w x y, upd2 (upd2 (upd2 (upd2 J 77 46 v) 108 q w) 101 o x) 102 o y 77 39 = (o : Int) := fun v w x y => by rw [← h39]; simp [upd2]
  have o4 : ∀ v w x y z, upd2 (upd2 (upd2 (upd2 (upd2 J 77 46 v) 108 q w) 101 o x) 102 o y) 103 o z 77 39 = (o : Int) := fun v w x y z => by rw [← h39]; simp [upd2]
  have r8 : ∀ v, upd2 J 77 46 v 108 q = J 108 q := fun v => by simp [upd2]
  rw [toNat_c, wrap_of (x := J 77 46 + 1) (by omega) (by omega), r8, wrap_of (x := J 108 q + 1) (by omega) (by omega), o1, toNat_c, o2, toNat_c, o3, toNat_c, o4, wrap_of (x := (o : Int) + 1) (by omega) (by omega)]
  exact ⟨inb_nat hq, inb_nat hq, inb_nat hoL, inb_nat hoL, inb_nat hoL, h2⟩
theorem begF_long {K : Mem} {q : Nat} {s : Int} (h : 300 ≤ K 26 2 ∨ 100 ≤ K 26 11) : begF K q s 26 0 = 1 := by
  unfold begF
  rw [if_pos h]
  simp [upd2]
theorem begF_at {K : Mem} {q o : Nat} {s : Int} (h : ¬ (300 ≤ K 26 2 ∨ 100 ≤ K 26 11)) (h11 : K 26 11 = (o : Int)) :
    (∀ r, begF K q s 26 r = if r = 11 then (o : Int) + 1 else if r = 2 then K 26 2 + 1 else K 26 r) ∧ (∀ r, begF K q s 27 r = if r = q then K 27 q + 1 else K 27 r) ∧ (∀ d, begF K q s 30 d = if d = o then (q : Int) else K 30 d) ∧
    (∀ d, begF K q s 31 d = if d = o then s else K 31 d) ∧ (∀ d, begF K q s 32 d = if d = o then 0 else K 32 d) ∧ (∀ id, id ≠ 26 → id ≠ 27 → id ≠ 30 → id ≠ 31 → id ≠ 32 → begF K q s id = K id) := by
  have hop : opn K = o := by unfold opn; rw [h11]; rfl
  unfold begF
  rw [if_neg h, hop, h11]
  refine ⟨fun r => ?_, fun r => ?_, fun d => ?_, fun d => ?_, fun d => ?_, fun id a b c d e => ?_⟩
  · simp [upd2]
  · simp [upd2]
  · simp [upd2]
  · simp [upd2]
  · simp [upd2]
  · rw [upd2_id a, upd2_id e, upd2_id d, upd2_id c, upd2_id b, upd2_id a]
theorem mbeg_at {J : Mem} {q o : Nat} {s : Int} : (∀ k, mbeg J q o s 77 k = if k = 39 then (o : Int) + 1 else if k = 46 then J 77 46 + 1 else J 77 k) ∧ (∀ r, mbeg J q o s 108 r = if r = q then J 108 q + 1 else J 108 r) ∧ (∀ d, mbeg J q o s 101 d = if d = o then (q : Int) else J 101 d) ∧
    (∀ d, mbeg J q o s 102 d = if d = o then 0 else J 102 d) ∧ (∀ d, mbeg J q o s 103 d = if d = o then s else J 103 d) ∧ (∀ id, id ≠ 77 → id ≠ 108 → id ≠ 101 → id ≠ 102 → id ≠ 103 → mbeg J q o s id = J id) := by
  unfold mbeg
  refine ⟨fun r => ?_, fun r => ?_, fun d => ?_, fun d => ?_, fun d => ?_, fun id a b c d e => ?_⟩
  · simp [upd2]
  · simp [upd2]
  · simp [upd2]
  · simp [upd2]
  · simp [upd2]
  · rw [upd2_id a, upd2_id e, upd2_id d, upd2_id c, upd2_id b, upd2_id a]
theorem begins_sim {H : List Hd} {K J : Mem} {q o L : Nat} {s s' : Int} {Q : Post} (hM : RM H K J o L) (k0 : K 26 0 = 0) (k11 : K 26 11 = (o : Int)) (k15 : K 26 15 = (L : Int)) (hq : q < 60) (ho : o ≤ 100) (h2 : 0 ≤ K 26 2 ∧ K 26 2 ≤ 300) (h27 : ∀ r, r < 60 → 0 ≤ K 27 r ∧ K 27 r ≤ 300) (hs : s' = scm s)
    (hQ : ∀ J', TP H (begF K q s) J J' → Q none J') : R 160 0 [(0, .inr (some 77)), (1, .inl (q : Int)), (2, .inl s')] [] J Q := by
  obtain ⟨⟨s1, s2, s3, s4, s5, s6, s7, s8⟩, hO, hL, hF⟩ := hM
  refine R_begins hq s1 ho (by rw [s4]; exact h2) (by rw [s8 q hq]; exact h27 q hq) (fun c => hQ _ ⟨⟨fun id h1 _ => upd2_id h1, fun k hk => ?_⟩, Or.inl ⟨begF_long (by omega), by simp [upd2]⟩⟩) (fun c => ?_)
  · rw [upd2_at, if_neg (by omega)]
  have hnl : ¬ (300 ≤ K 26 2 ∨ 100 ≤ K 26 11) := by omega
  obtain ⟨a1, a2, a3, a4, a5, a6⟩ := begF_at (q := q) (s := s) hnl k11
  obtain ⟨b1, b2, b3, b4, b5, b6⟩ := mbeg_at (J := J) (q := q) (o := o) (s := s')
  generalize begF K q s = τ at hQ a1 a2 a3 a4 a5 a6
  generalize mbeg J q o s' = M at b1 b2 b3 b4 b5 b6 ⊢
  refine hQ M ⟨⟨fun id h1 h2 => b6 id h1 (by omega) (by omega) (by omega) (by omega), fun k hk => ?_⟩, Or.inr ⟨?_, o + 1, L, ?_, ?_, ⟨⟨?_, ?_, ?_, ?_, ?_, ?_, ?_, fun r hr => ?_⟩, fun d hd => ?_, ?_, ?_⟩, fun h => ?_⟩⟩
  · rw [b1, if_neg (by omega), if_neg (by omega)]
  · rw [a1, if_neg (by decide), if_neg (by decide)]; exact k0
  · rw [a1, if_pos rfl]; omega
  · rw [a1, if_neg (by decide), if_neg (by decide)]; exact k15
  · rw [b1, if_pos rfl]; omega
  · rw [b1, if_neg (by decide), if_neg (by decide)]; exact s2
  · rw [b1, if_neg (by decide), if_neg (by decide)]; exact s3
  · rw [b1, if_neg (by decide), if_pos rfl, a1, if_neg (by decide), if_pos rfl, s4]
  · rw [b1, if_neg (by decide), if_neg (by decide), a1, if_neg (by decide), if_neg (by decide)]; exact s5
  · rw [b1, if_neg (by decide), if_neg (by decide), a1, if_neg (by decide), if_neg (by decide)]; exact s6
  · rw [b1, if_neg (by decide), if_neg (by decide), a1, if_neg (by decide), if_neg (by decide)]; exact s7
  · rw [b2, a2, s8 q hq, s8 r hr]
  · rw [b3, b4, b5, a3, a4, a5, b6 104 (by decide) (by decide) (by decide) (by decide) (by decide), a6 33 (by decide) (by decide) (by decide) (by decide) (by decide)]
    by_cases hdo : d = o
    · rw [if_pos hdo, if_pos hdo, if_pos hdo, if_pos hdo, if_pos hdo, if_pos hdo]
      exact ⟨rfl, rfl, hs, fun p _ _ h => absurd h (by decide)⟩
    · rw [if_neg hdo, if_neg hdo, if_neg hdo, if_neg hdo, if_neg hdo, if_neg hdo]
      exact hO d (by omega)
  · have z : ∀ id, id ≠ 26 → id ≠ 27 → id ≠ 30 → id ≠ 31 → id ≠ 32 → τ id = K id := a6
    exact hL.congr (z 34 (by decide) (by decide) (by decide) (by decide) (by decide)) (z 35 (by decide) (by decide) (by decide) (by decide) (by decide)) (z 36 (by decide) (by decide) (by decide) (by decide) (by decide)) (b6 105 (by decide) (by decide) (by decide) (by decide) (by decide)) (b6 106 (by decide) (by decide) (by decide) (by decide) (by decide)) (b6 107 (by decide) (by decide) (by decide) (by decide) (by decide))
  · exact hF.congr (a6 28 (by decide) (by decide) (by decide) (by decide) (by decide)) (a6 29 (by decide) (by decide) (by decide) (by decide) (by decide)) (by rw [b1, if_neg (by decide), if_neg (by decide)]) (by rw [b1, if_neg (by decide), if_neg (by decide)]) (b6 109 (by decide) (by decide) (by decide) (by decide) (by decide)) (b6 110 (by decide) (by decide) (by decide) (by decide) (by decide))
  · rw [a5] at h
    simp at h
/-- a value is given -/
theorem give_TP {H : List Hd} {K J M : Mem} {k L : Nat} {v : Int} (hS : RS K J (k + 1) L) (hO : RO H K J k) (hL : RL H K J L) (hF : RF K J) (k0 : K 26 0 = 0) (k11 : K 26 11 = ((k + 1 : Nat) : Int)) (k15 : K 26 15 = (L : Int))
    (m39 : M 77 39 = (k : Int)) (m45 : M 77 45 = v) (mo : ∀ r, r ≠ 39 → r ≠ 45 → M 77 r = J 77 r) (mi : ∀ id, id ≠ 77 → M id = J id) : TP H (givF K v) J M := by
  obtain ⟨s1, s2, s3, s4, s5, s6, s7, s8⟩ := hS
  have gi : ∀ id, id ≠ 26 → givF K v id = K id := fun id hid => by unfold givF; rw [upd2_id hid, upd2_id hid]
  have g26 : ∀ r, r ≠ 1 → r ≠ 11 → givF K v 26 r = K 26 r := fun r h1 h2 => by unfold givF; simp [upd2, h1, h2]
  have g11 : givF K v 26 11 = (k : Int) := by unfold givF; rw [upd2_at, if_pos ⟨rfl, rfl⟩, k11]; omega
  have g1 : givF K v 26 1 = v := by unfold givF; simp [upd2]
  refine ⟨⟨fun id h1 _ => mi id h1, fun r hr => mo r (by omega) (by omega)⟩, Or.inr ⟨?_, k, L, g11, ?_, ⟨⟨m39, ?_, ?_, ?_, ?_, ?_, ?_, fun r hr => ?_⟩, fun d hd => ?_, ?_, ?_⟩, fun _ => ?_⟩⟩
  · rw [g26 0 (by decide) (by decide)]; exact k0
  · rw [g26 15 (by decide) (by decide)]; exact k15
  · rw [mo 43 (by decide) (by decide)]; exact s2
  · rw [mo 44 (by decide) (by decide)]; exact s3
  · rw [mo 46 (by decide) (by decide), g26 2 (by decide) (by decide)]; exact s4
  · rw [mo 47 (by decide) (by decide), g26 3 (by decide) (by decide)]; exact s5
  · rw [mo 53 (by decide) (by decide), g26 16 (by decide) (by decide)]; exact s6
  · rw [mo 54 (by decide) (by decide), g26 17 (by decide) (by decide)]; exact s7
  · rw [mi 108 (by decide), gi 27 (by decide)]; exact s8 r hr
  · rw [gi 30 (by decide), gi 31 (by decide), gi 32 (by decide), gi 33 (by decide), mi 101 (by decide), mi 102 (by decide), mi 103 (by decide), mi 104 (by decide)]
    exact hO d hd
  · exact hL.congr (gi 34 (by decide)) (gi 35 (by decide)) (gi 36 (by decide)) (mi 105 (by decide)) (mi 106 (by decide)) (mi 107 (by decide))
  · exact hF.congr (gi 28 (by decide)) (gi 29 (by decide)) (mo 48 (by decide) (by decide)) (mo 49 (by decide) (by decide)) (mi 109 (by decide)) (mi 110 (by decide))
  · rw [m45, g1]
/-- the model finds what is seen -/
theorem R_found {H : List Hd} {σ J : Mem} {L : Nat} (hl : Low σ L) (hL : L ≤ 300) (hR : RL H σ J L) {c s : Int} {i : Nat} {Q : Post} (hv : Vis σ c s i) (hs : s < (L : Int)) {s' : Int} (hs' : s' = scm s) (hQ : Q (some (.inl (i : Int))) J) : R 159 0 [(0, .inr (some 77)), (1, .inl c), (2, .inl s')] [] J Q := by
  subst hs'
  refine t159_0 J _ _ ?_
  refine Vis.ind (σ := σ) (c := c) (M := fun s j => s < (L : Int) → Q (some (.inl (j : Int))) J → R 159 2 [(0, .inr (some 77)), (1, .inl c), (3, .inl (scm s))] [] J Q) (fun j h => ?_) (fun i j h1 ih => ?_) hv hs hQ
  · intro hs hQ
    rw [scm_nat]
    refine t159_2 J _ _ ⟨inb_nat (by omega), fun _ => hQ, fun q => ?_⟩
    rw [toNat_c, (hR j (by omega)).1] at q
    exact absurd h q
  · intro hs hQ
    rw [scm_nat]
    have h3 := hl i (by omega)
    refine t159_2 J _ _ ⟨inb_nat (by omega), fun q => ?_, fun _ => ⟨inb_nat (by omega), ?_⟩⟩
    · rw [toNat_c, (hR i (by omega)).1] at q
      exact absurd q h1
    · rw [toNat_c, (hR i (by omega)).2.1]
      exact ih (by omega) hQ
/-- a name is told -/
theorem lnk_RM {H : List Hd} {K J : Mem} {o L : Nat} {s n v v' s' : Int} (hM : RM H K J o L) (k15 : K 26 15 = (L : Int)) (hL : L < 300) (hs : s' = scm s) (h1 : isVal n = true → v' = v) (h2 : ∀ p, p < H.length → lt H p = 64 → nm H p = n → v' = (p : Int)) :
    RM H (lnkF K s n v) (mkn J n v' s') o (L + 1) ∧ FrM J (mkn J n v' s') := by
  obtain ⟨⟨s1, s2, s3, s4, s5, s6, s7, s8⟩, hO, hR, hF⟩ := hM
  obtain ⟨l1, l2, l3, l4, l5⟩ := lnkF_low (J := K) (s := s) (n := n) (v := v) k15
  have li : ∀ id, id ≠ 26 → id ≠ 34 → id ≠ 35 → id ≠ 36 → lnkF K s n v id = K id := fun id a b c d => lnkF_id a b c d
  have l26 : ∀ r, r ≠ 15 → lnkF K s n v 26 r = K 26 r := fun r hr => lnkF_26 hr
  have mi : ∀ id, id ≠ 77 → id ≠ 105 → id ≠ 106 → id ≠ 107 → mkn J n v' s' id = J id := fun id a b c d => by unfold mkn; rw [upd2_id a, upd2_id d, upd2_id c, upd2_id b]
  have m77 : ∀ r, r ≠ 43 → mkn J n v' s' 77 r = J 77 r := fun r hr => by unfold mkn; simp [upd2, hr]
  have m43 : mkn J n v' s' 77 43 = ((L + 1 : Nat) : Int) := by unfold mkn; rw [upd2_at, if_pos ⟨rfl, rfl⟩, s2, wrap_succ (by omega)]
  have m5 : ∀ j, mkn J n v' s' 105 j = if j = L then n else J 105 j := fun j => by unfold mkn; rw [s2, toNat_c]; simp [upd2]
  have m6 : ∀ j, mkn J n v' s' 106 j = if j = L then v' else J 106 j := fun j => by unfold mkn; rw [s2, toNat_c]; simp [upd2]
  have m7 : ∀ j, mkn J n v' s' 107 j = if j = L then s' else J 107 j := fun j => by unfold mkn; rw [s2, toNat_c]; simp [upd2]
  refine ⟨⟨⟨?_, m43, ?_, ?_, ?_, ?_, ?_, fun r hr => ?_⟩, ?_, fun j hj => ?_, ?_⟩, fun id a b => mi id a (by omega) (by omega) (by omega), fun k hk => m77 k (by omega)⟩
  · rw [m77 39 (by decide)]; exact s1
  · rw [m77 44 (by decide)]; exact s3
  · rw [m77 46 (by decide), l26 2 (by decide)]; exact s4
  · rw [m77 47 (by decide), l26 3 (by decide)]; exact s5
  · rw [m77 53 (by decide), l26 16 (by decide)]; exact s6
  · rw [m77 54 (by decide), l26 17 (by decide)]; exact s7
  · rw [mi 108 (by decide) (by decide) (by decide) (by decide), li 27 (by decide) (by decide) (by decide) (by decide)]; exact s8 r hr
  · exact hO.congr (li 30 (by decide) (by decide) (by decide) (by decide)) (li 31 (by decide) (by decide) (by decide) (by decide)) (li 32 (by decide) (by decide) (by decide) (by decide)) (li 33 (by decide) (by decide) (by decide) (by decide)) (mi 101 (by decide) (by decide) (by decide) (by decide)) (mi 102 (by decide) (by decide) (by decide) (by decide)) (mi 103 (by decide) (by decide) (by decide) (by decide)) (mi 104 (by decide) (by decide) (by decide) (by decide))
  · rw [m5, m6, m7]
    rcases Nat.lt_or_ge j L with hj' | hj'
    · rw [if_neg (by omega), if_neg (by omega), if_neg (by omega), (l1 j hj').1, (l1 j hj').2, l5 j hj']
      exact hR j hj'
    · have : j = L := by omega
      subst this
      rw [if_pos rfl, if_pos rfl, if_pos rfl, l2, l3, l4]
      exact ⟨rfl, hs, h1, h2⟩
  · exact hF.congr (li 28 (by decide) (by decide) (by decide) (by decide)) (li 29 (by decide) (by decide) (by decide) (by decide)) (m77 48 (by decide)) (m77 49 (by decide)) (mi 109 (by decide) (by decide) (by decide) (by decide)) (mi 110 (by decide) (by decide) (by decide) (by decide))
