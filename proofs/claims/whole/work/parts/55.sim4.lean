/-! The model's calls, and its whole turn. -/
section Kinds
variable {H : List Hd} {K J : Mem} {k p g L : Nat} {s : Int} {Q : Post}
theorem R_goesCall (hH : prog H) (h : MT H K J k p s g L) (ho : lt H p = 33)
    (hQ : ∀ J', TP H (if (g : Int) = 0 then begF K (kp H p 0) s else if (g : Int) = 1 then begF (lnkF (cntF (upd2 K 26 3 (K 26 3 + 1)) 1 (wy H p).toNat) (fndF (cntF (upd2 K 26 3 (K 26 3 + 1)) 1 (wy H p).toNat) (nm H p) 300 s) (pm H (tell H p)) (K 26 1)) (kp H (tell H p) 0) (K 26 15)
      else givF (cntF K (-1) (wy H p).toNat) (K 26 1)) J J' → Q none J') :
    R 166 0 [(0, .inr (some 77)), (1, .inl (k : Int)), (2, .inl (p : Int))] [] J Q := by
  have hw := prog_wfa hH
  have h60 := prog_60 hH
  have hx := hH.2.2.2
  obtain ⟨hS, hO, hL, hF, ⟨b1, b2, b3, b4, b5, b6⟩, b7, b8, ⟨c1, c2, c3, c4, c5, c6, c7⟩, d1, d2, d3, d4, hA, hSI, hSe, hs⟩ := id h
  have hpt : pts (lt H p) = 1 := by rw [ho]; rfl
  have hno : ¬ (isOpr (lt H p) = true ∧ g = 1) := by rw [ho]; exact fun q => absurd q.1 (by decide)
  have k0 : mkidP (p : Int) 0 ∧ mkid J (p : Int) 0 = (kp H p 0 : Int) := hA.kid hH (j := 0) c6 (by omega)
  have hw1 : 0 < (wy H p).toNat := by rcases wy_cases H p with e | e | e <;> rw [e] <;> decide
  obtain ⟨t1, t2, t3, t4⟩ := tell_spec hH.1 hw c6 ho
  have kc : inb (k : Int) 100 := inb_nat c5
  have f0 := hF.2.2 0 (by omega)
  have d40 := d4 0 (by omega)
  obtain ⟨s1, s2, s3, s4, s5, s6, s7, s8⟩ := id hS
  refine t166_0 J _ _ ⟨kc, fun q1 => ⟨kc, fun q2 => ?_, fun q2 => ?_⟩, fun q1 => ⟨k0.1, kc, ?_⟩⟩
  · -- it is over
    rw [toNat_c, b3] at q1 q2
    rw [if_neg (by omega), if_neg (by omega)] at hQ
    dsimp only
    rw [hF.1, wrap_of (by omega) (by omega)]
    generalize hM : upd2 J 77 48 (K 29 0 - 1) = M
    have mi : ∀ id, id ≠ 77 → M id = J id := fun id hid => by rw [← hM]; exact upd2_id hid
    have m77 : ∀ r, r ≠ 48 → M 77 r = J 77 r := fun r hr => by rw [← hM]; simp [upd2, hr]
    have m48 : M 77 48 = K 29 0 - 1 := by rw [← hM]; simp [upd2]
    have fr : FrM J M := ⟨fun id a _ => mi id a, fun r hr => m77 r (by omega)⟩
    refine down_loop (f := K 29) hH (hA.frM fr) c6 ho d4 (fun N hN n10 n9 => ?_) 3 0 M (by omega) (fun _ _ _ => rfl) rfl (fun x hx => by rw [mi 109 (by decide), (hF.2.2 x hx).1]; simp)
    refine t166_230 N _ _ ⟨fun _ => ?_, fun q => absurd (by omega) q⟩
    have ec : ∀ id, id ≠ 28 → id ≠ 29 → cntF K (-1) (wy H p).toNat id = K id := fun id h1 h2 => cntF_id h1 h2 _
    have n77 : N 77 = M 77 := hN 77 (by decide) (by decide)
    have hS' : RS (cntF K (-1) (wy H p).toNat) N (k + 1) L := by
      unfold RS
      rw [ec 26 (by decide) (by decide), ec 27 (by decide) (by decide), n77, hN 108 (by decide) (by decide), mi 108 (by decide), m77 39 (by decide), m77 43 (by decide), m77 44 (by decide), m77 46 (by decide), m77 47 (by decide), m77 53 (by decide), m77 54 (by decide)]
      exact hS
    have hO' : RO H (cntF K (-1) (wy H p).toNat) N k := hO.congr (ec 30 (by decide) (by decide)) (ec 31 (by decide) (by decide)) (ec 32 (by decide) (by decide)) (ec 33 (by decide) (by decide)) (by rw [hN 101 (by decide) (by decide), mi 101 (by decide)]) (by rw [hN 102 (by decide) (by decide), mi 102 (by decide)]) (by rw [hN 103 (by decide) (by decide), mi 103 (by decide)]) (by rw [hN 104 (by decide) (by decide), mi 104 (by decide)])
    have hL' : RL H (cntF K (-1) (wy H p).toNat) N L := hL.congr (ec 34 (by decide) (by decide)) (ec 35 (by decide) (by decide)) (ec 36 (by decide) (by decide)) (by rw [hN 105 (by decide) (by decide), mi 105 (by decide)]) (by rw [hN 106 (by decide) (by decide), mi 106 (by decide)]) (by rw [hN 107 (by decide) (by decide), mi 107 (by decide)])
    have hF' : RF (cntF K (-1) (wy H p).toNat) N := by
      refine ⟨?_, ?_, fun r hr => ?_⟩
      · rw [n77, m48, (cntF_val _ _).1, if_pos hw1]; omega
      · rw [n77, m77 49 (by decide), (cntF_val _ _).2, if_pos hw1, hF.2.1]; omega
      · obtain ⟨g1, g2, g3⟩ := hF.2.2 r hr
        rw [n9 r hr, n10, mi 110 (by decide), g2, (cntF_val _ _).1, (cntF_val _ _).2]
        split <;> omega
    refine hQ _ ((give_TP hS' hO' hL' hF' (by rw [ec 26 (by decide) (by decide)]; exact c1) (by rw [ec 26 (by decide) (by decide)]; exact c2) (by rw [ec 26 (by decide) (by decide)]; exact c3) ?_ ?_ (fun r h1 h2 => ?_) (fun id h1 => ?_)).fr (fr.trans hN.frM))
    · rw [upd2_at, if_pos ⟨rfl, rfl⟩, n77, m77 39 (by decide), s1, wrap_pred (by omega)]
    · rw [upd2_at, if_neg (by decide), n77, m77 45 (by decide)]
      exact b8 (by omega)
    · simp [upd2, h1]
    · rw [upd2_id h1]
  · -- its body begins
    rw [toNat_c, b3] at q1 q2
    rw [if_neg (by omega), if_pos (by omega)] at hQ
    have e45 := b8 (by omega)
    dsimp only
    rw [s5, wrap_of (x := K 26 3 + 1) (by omega) (by omega)]
    have e48 : upd2 J 77 47 (K 26 3 + 1) 77 48 = K 29 0 := by rw [← hF.1]; simp [upd2]
    rw [e48, wrap_of (x := K 29 0 + 1) (by omega) (by omega)]
    have goal : ∀ (M : Mem), (∀ id, id ≠ 77 → M id = J id) → (∀ r, r ≠ 47 → r ≠ 48 → r ≠ 49 → M 77 r = J 77 r) → M 77 47 = K 26 3 + 1 → M 77 48 = K 29 0 + 1 → M 77 49 = max (K 29 0 + 1) (K 28 0) →
        R 166 87 [(0, .inr (some 77)), (1, .inl (k : Int)), (2, .inl (p : Int)), (3, .inl ((0 : Nat) : Int))] [] M Q := by
      intro M mi m77 m47 m48 m49
      have fr : FrM J M := ⟨fun id a _ => mi id a, fun r hr => m77 r (by omega) (by omega) (by omega)⟩
      refine up_loop (f := K 29) (m := K 28) hH (hA.frM fr) c6 ho d4 (fun x hx => (hF.2.2 x hx).2.2) (fun N hN nv => ?_) 3 0 M (by omega) (fun _ _ _ => rfl) (fun x hx => by rw [mi 109 (by decide), mi 110 (by decide), (hF.2.2 x hx).1, (hF.2.2 x hx).2.1]; simp)
      have frN : FrM J N := fr.trans hN.frM
      have hAN := hA.frM frN
      obtain ⟨f1, f2⟩ := hAN.fun_ hH c6 (by rw [ho]; decide)
      have n77 : N 77 = M 77 := hN 77 (by decide) (by decide)
      generalize hK1 : cntF (upd2 K 26 3 (K 26 3 + 1)) 1 (wy H p).toNat = K1 at hQ
      have ek : ∀ id, id ≠ 26 → id ≠ 28 → id ≠ 29 → K1 id = K id := fun id h1 h2 h3 => by rw [← hK1, cntF_id h2 h3, upd2_id h1]
      have ek26 : ∀ r, r ≠ 3 → K1 26 r = K 26 r := fun r hr => by rw [← hK1, cntF_id (by decide) (by decide), upd2_at, if_neg (fun q => hr q.2)]
      have ek3 : K1 26 3 = K 26 3 + 1 := by rw [← hK1, cntF_id (by decide) (by decide), upd2_at, if_pos ⟨rfl, rfl⟩]
      have ek29 : ∀ x, K1 29 x = (if x < (wy H p).toNat then K 29 x + 1 else K 29 x) := fun x => by rw [← hK1, (cntF_val _ _).1, upd2_id (show 29 ≠ 26 by decide)]
      have ek28 : ∀ x, K1 28 x = (if x < (wy H p).toNat then max (K 29 x + 1) (K 28 x) else K 28 x) := fun x => by rw [← hK1, (cntF_val _ _).2, upd2_id (show 29 ≠ 26 by decide), upd2_id (show 28 ≠ 26 by decide)]
      have e1 : ∀ id, id ≠ 26 → id ≠ 28 → id ≠ 29 → K1 id = K id := ek
      have hSIK : SI H K1 (k + 1) L := hSI.same (Nat.le_refl _) (ek 30 (by decide) (by decide) (by decide)) (ek 31 (by decide) (by decide) (by decide)) (ek 34 (by decide) (by decide) (by decide)) (ek 36 (by decide) (by decide) (by decide))
      have hSeK : Sees H K1 p s := hSe.same hSI.1 hs.2 (ek 34 (by decide) (by decide) (by decide)) (ek 36 (by decide) (by decide) (by decide))
      obtain ⟨i, i1, i2, i3, i4, i5, i6⟩ := call_link hH hSIK (by omega) c6 ho hs.2 hSeK
      rw [i3] at hQ
      have hRMK : RM H K1 N (k + 1) L := by
        refine ⟨?_, ?_, ?_, ?_, ?_, fun r hr => ?_⟩
        · unfold RS
          rw [ek26 2 (by decide), ek3, ek26 16 (by decide), ek26 17 (by decide), ek 27 (by decide) (by decide) (by decide), n77, hN 108 (by decide) (by decide), mi 108 (by decide), m77 39 (by decide) (by decide) (by decide), m77 43 (by decide) (by decide) (by decide), m77 44 (by decide) (by decide) (by decide), m77 46 (by decide) (by decide) (by decide), m47, m77 53 (by decide) (by decide) (by decide), m77 54 (by decide) (by decide) (by decide)]
          exact ⟨s1, s2, s3, s4, rfl, s6, s7, s8⟩
        · exact (h.rm hno).2.1.congr (ek 30 (by decide) (by decide) (by decide)) (ek 31 (by decide) (by decide) (by decide)) (ek 32 (by decide) (by decide) (by decide)) (ek 33 (by decide) (by decide) (by decide)) (by rw [hN 101 (by decide) (by decide), mi 101 (by decide)]) (by rw [hN 102 (by decide) (by decide), mi 102 (by decide)]) (by rw [hN 103 (by decide) (by decide), mi 103 (by decide)]) (by rw [hN 104 (by decide) (by decide), mi 104 (by decide)])
        · exact hL.congr (ek 34 (by decide) (by decide) (by decide)) (ek 35 (by decide) (by decide) (by decide)) (ek 36 (by decide) (by decide) (by decide)) (by rw [hN 105 (by decide) (by decide), mi 105 (by decide)]) (by rw [hN 106 (by decide) (by decide), mi 106 (by decide)]) (by rw [hN 107 (by decide) (by decide), mi 107 (by decide)])
        · rw [n77, m48, ek29, if_pos hw1]
        · rw [n77, m49, ek28, if_pos hw1]
        · obtain ⟨g1, g2, g3⟩ := hF.2.2 r hr
          obtain ⟨v1, v2⟩ := nv r hr
          rw [v1, v2, ek29, ek28]
          refine ⟨rfl, rfl, ?_⟩
          split <;> omega
      refine t166_87 N _ _ _ ⟨fun _ => ⟨f1, kc, ?_⟩, fun q => absurd (by omega) q⟩
      rw [f2, toNat_c, hN 103 (by decide) (by decide), mi 103 (by decide), b5]
      refine R_found hSIK.1 (by omega) hRMK.2.2.1 i2 hs.2 rfl ⟨_, rfl, inb_nat (by omega), ?_⟩
      have e106 : N 106 i = (tell H p : Int) := (hRMK.2.2.1 i i1).2.2.2 (tell H p) t2 t3 (by rw [t4, i4])
      rw [toNat_c, e106, toNat_c]
      have kt : mkidP (tell H p : Int) 0 ∧ mkid N (tell H p : Int) 0 = (kp H (tell H p) 0 : Int) := hAN.kid hH (j := 0) t2 (by rw [t3]; decide)
      have e89 : N 89 (tell H p) = (pos H (tell H p) : Int) := hAN.1.1.1.2 _ t2
      have hpa := pos_add_lt t2
      have h3 : hds (lt H (tell H p)) = 3 := hds64 t3
      have e2 : wrap (N 89 (tell H p) + 2) = ((pos H (tell H p) + 2 : Nat) : Int) := by rw [e89, wrap_of (by omega) (by omega)]; omega
      have e79 : N 79 (pos H (tell H p) + 2) = pm H (tell H p) := by rw [hAN.1.1.1.1 _ (by omega), tk_at2 t2 (by omega)]
      rw [e2, toNat_c, e79, kt.2]
      have n43 : N 77 43 = (L : Int) := hRMK.1.2.1
      refine ⟨kt.1, inb_nat (by omega), inb_nat (by omega), by rw [n43]; exact inb_nat (by omega), ?_⟩
      have n45 : N 77 45 = K 26 1 := by rw [n77, m77 45 (by decide) (by decide) (by decide)]; exact e45
      have hvp : isVal (pm H (tell H p)) = true := (def_fun hH.1 t2 t3).2
      have k15 : K1 26 15 = (L : Int) := by rw [ek26 15 (by decide)]; exact c3
      obtain ⟨r1, r2⟩ := lnk_RM (s := (i : Int)) (n := pm H (tell H p)) (v := K 26 1) (v' := N 77 45) (s' := (i : Int)) hRMK k15 c4 (scm_nat i).symm (fun _ => n45) (fun p' a b c => absurd c (val_ne_def hH.1 hvp a b))
      have e43 : wrap (wrap (N 77 43 + 1) - 1) = (L : Int) := by rw [n43, wrap_succ (by omega), wrap_pred (by omega)]
      rw [e43]
      rw [c3] at hQ
      have hkl := kp_len hw t2 (j := 0) (by rw [t3]; decide)
      exact begins_sim r1 (by rw [lnkF_26 (by decide), ek26 0 (by decide)]; exact c1) (by rw [lnkF_26 (by decide), ek26 11 (by decide)]; exact c2) (by rw [lnkF_15, k15]; omega) (by omega) (by omega) (by rw [lnkF_26 (by decide), ek26 2 (by decide)]; exact d1) (by rw [lnkF_id (by decide) (by decide) (by decide) (by decide), ek 27 (by decide) (by decide) (by decide)]; exact d2) (scm_nat L).symm (fun J' hJ' => ⟨rfl, hQ J' (hJ'.fr (frN.trans r2))⟩)
    generalize hM0 : upd2 (upd2 J 77 47 (K 26 3 + 1)) 77 48 (K 29 0 + 1) = M0
    have a0 : ∀ id, id ≠ 77 → M0 id = J id := fun id hid => by rw [← hM0, upd2_id hid, upd2_id hid]
    have a77 : ∀ r, r ≠ 47 → r ≠ 48 → M0 77 r = J 77 r := fun r h1 h2 => by rw [← hM0]; simp [upd2, h1, h2]
    have a47 : M0 77 47 = K 26 3 + 1 := by rw [← hM0]; simp [upd2]
    have a48 : M0 77 48 = K 29 0 + 1 := by rw [← hM0]; simp [upd2]
    have a49 : M0 77 49 = K 28 0 := by rw [a77 49 (by decide) (by decide)]; exact hF.2.1
    rw [a48, a49]
    have fin : ∀ v, v = max (K 29 0 + 1) (K 28 0) → R 166 87 [(0, .inr (some 77)), (1, .inl (k : Int)), (2, .inl (p : Int)), (3, .inl ((0 : Nat) : Int))] [] (upd2 M0 77 49 v) Q := by
      intro v hv
      refine goal _ (fun id hid => by rw [upd2_id hid]; exact a0 id hid) (fun r h1 h2 h3 => ?_) ?_ ?_ ?_
      · rw [upd2_at, if_neg (fun q => h3 q.2)]; exact a77 r h1 h2
      · rw [upd2_at, if_neg (by decide)]; exact a47
      · rw [upd2_at, if_neg (by decide)]; exact a48
      · rw [upd2_at, if_pos ⟨rfl, rfl⟩]; exact hv
    exact ⟨fun c => fin _ (by omega), fun c => fin _ (by omega)⟩
  · rw [toNat_c, b3] at q1
    rw [if_pos (by omega)] at hQ
    rw [k0.2, toNat_c, b5]
    exact h.beg hH hno (kp_len hw c6 (by omega)) (fun J' hJ' => ⟨rfl, hQ J' hJ'⟩)
end Kinds
