/-! Calls, and a whole turn. -/
theorem wy_cases (H : List Hd) (p : Nat) : wy H p = 1 ∨ wy H p = 2 ∨ wy H p = 3 := by
  unfold wy
  split
  · exact Or.inl rfl
  · split
    · exact Or.inr (Or.inl rfl)
    · exact Or.inr (Or.inr rfl)
theorem wy_nat (H : List Hd) (p : Nat) : wy H p = (((wy H p).toNat : Nat) : Int) ∧ (wy H p).toNat ≤ 3 := by
  rcases wy_cases H p with h | h | h <;> rw [h] <;> decide
section Turn
variable {H : List Hd} {J : Mem} {k p : Nat} {s : Int} {Q : Post}
theorem R_callsF (hH : prog H) (h : JP H J k p) (ho : lt H p = 33) {g : Int}
    (hQ : Q none (if g = 0 then begF J (kp H p 0) s else if g = 1 then begF (lnkF (cntF (upd2 J 26 3 (J 26 3 + 1)) 1 (wy H p).toNat) (fndF (cntF (upd2 J 26 3 (J 26 3 + 1)) 1 (wy H p).toNat) (nm H p) 300 s) (pm H (tell H p)) (J 26 1)) (kp H (tell H p) 0) (J 26 15) else givF (cntF J (-1) (wy H p).toNat) (J 26 1))) :
    R 33 0 [(0, .inr (some 26)), (1, .inr (some 9)), (2, .inr (some 20)), (3, .inl (p : Int)), (4, .inl s), (5, .inl g)] [] J Q := by
  have hw := prog_wfa hH
  have h60 := prog_60 hH
  have hp := h.2.2.2.1
  have hpt : pts (lt H p) = 1 := by rw [ho]; rfl
  obtain ⟨t1, t2, t3, t4⟩ := tell_spec hH.1 hw hp ho
  obtain ⟨y1, y2⟩ := wy_nat H p
  have hfr := fun_range (call_fun hH.1 hp ho).1
  have hf6 := fnr_lt hH.1 hp ho
  have hfn : wrap (nm H p - 65) = (fnr H p : Int) := by unfold fnr; rw [wrap_of (by omega) (by omega)]; omega
  have r11 : rd J 11 (p : Int) = nm H p := by rw [tree_rd (t := 9) (H := H) (Or.inl rfl) h60 2 p (by omega) (by omega) hp]; exact (h.1.1.2.1 p hp).2.1
  have r23 : rd J 23 (p : Int) = wy H p := by rw [rd_nat (by rw [sz23]; omega)]; exact (h.1.2.1 p hp).2.2 ho
  obtain ⟨⟨a1, a2⟩, j1, j2, j3, j4, j5, j6, j7, j8, j9, j10⟩ := id h
  refine t33_0 J _ _ _ ⟨fun g0 => ⟨fun g1 => ?_, fun g1 => ?_⟩, fun g0 => ?_⟩
  · rw [if_neg g0, if_neg g1] at hQ
    rw [r23, y1]
    refine R_count y2 (by omega) j10 ⟨rfl, ?_⟩
    have hres := R_give (J := cntF J (-1) (wy H p).toNat) (by rw [cntF_id (by decide) (by decide)]; omega) hQ
    have e1 : cntF J (-1) (wy H p).toNat 26 1 = J 26 1 := by rw [cntF_id (by decide) (by decide)]
    dsimp only
    rw [e1]
    exact hres
  · rw [if_neg g0, if_pos (by simpa using g1)] at hQ
    dsimp only
    rw [wrap_of (x := J 26 3 + 1) (by omega) (by omega), rd_upd (by decide), r23, y1, r11, hfn]
    generalize hJ3 : upd2 J 26 3 (J 26 3 + 1) = J3 at hQ
    have e3 : ∀ id, id ≠ 26 → J3 id = J id := fun id hid => by rw [← hJ3]; exact upd2_id hid
    have e3s : ∀ r, r ≠ 3 → J3 26 r = J 26 r := fun r hr => by rw [← hJ3, upd2_at, if_neg (fun q => hr q.2)]
    refine R_count y2 (by omega) (by rw [e3 29 (by decide)]; exact j10) ⟨rfl, ?_⟩
    generalize hK : cntF J3 1 (wy H p).toNat = K at hQ
    have ek : ∀ id, id ≠ 28 → id ≠ 29 → K id = J3 id := fun id h1 h2 => by rw [← hK]; exact cntF_id h1 h2 _
    refine R_find ⟨_, rfl, ?_⟩
    have r24 : rd K 24 (fnr H p : Int) = (tell H p : Int) := by rw [rd_nat (by rw [sz24]; omega), ek 24 (by decide) (by decide), e3 24 (by decide), (a2.2.1 _ hf6).1]; exact t1
    have r12 : rd K 12 (tell H p : Int) = pm H (tell H p) := by
      rw [tree_rd (t := 9) (H := H) (Or.inl rfl) h60 3 _ (by omega) (by omega) t2, ek _ (by decide) (by decide), e3 _ (by decide)]
      exact (a1.2.1 _ t2).2.2.1
    have k15 : K 26 15 = J 26 15 := by rw [ek 26 (by decide) (by decide)]; exact e3s 15 (by decide)
    have k1 : K 26 1 = J 26 1 := by rw [ek 26 (by decide) (by decide)]; exact e3s 1 (by decide)
    have k2 : K 26 2 = J 26 2 := by rw [ek 26 (by decide) (by decide)]; exact e3s 2 (by decide)
    have k11 : K 26 11 = J 26 11 := by rw [ek 26 (by decide) (by decide)]; exact e3s 11 (by decide)
    have k27 : K 27 = J 27 := by rw [ek 27 (by decide) (by decide), e3 27 (by decide)]
    rw [r24, r12, link_eq (by rw [k15]; exact j5) (by rw [k15]; exact j6), k15, k1]
    have hk0 := kp_len hw t2 (j := 0) (by rw [t3]; decide)
    rw [kp_zero] at hQ hk0
    rw [wrap_succ (by omega)]
    refine R_begin (by omega) (by rw [lnkF_26 (by decide), k2]; exact j4) (by rw [lnkF_26 (by decide), k11]; omega) ?_ ⟨rfl, hQ⟩
    rw [lnkF_id (by decide) (by decide) (by decide) (by decide), k27]
    exact j9 _ (by omega)
  · rw [if_pos (by simpa using g0)] at hQ
    exact h.first hH (by omega) ⟨rfl, hQ⟩
/-- Machine.goOn -/
theorem R_go {I : Mem} {g : Int} (hH : prog H) (h : GoPre H I k p g) (hQ : Q none (goF H I)) : R 28 0 [(0, .inr (some 26)), (1, .inr (some 9)), (2, .inr (some 20))] [] I Q := by
  have h60 := prog_60 hH
  obtain ⟨g1, g2, g3, g4, g5, g6, g7, g8, g9, g10, g11, g12, g13, g14, g15, g16⟩ := h
  have e11 : wrap (I 26 11 - 1) = (k : Int) := by rw [g2]; exact wrap_pred (by omega)
  have hop : opn I - 1 = k := by unfold opn; rw [g2]; omega
  have r32 : rd I 32 (k : Int) = g := by rw [rd_nat (by rw [sz32]; omega)]; exact g6
  have r30 : rd I 30 (k : Int) = (p : Int) := by rw [rd_nat (by rw [sz30]; omega)]; exact g4
  have r31 : rd I 31 (k : Int) = I 31 k := rd_nat (by rw [sz31]; omega)
  have w32 : ∀ v, wr I 32 (k : Int) v = upd2 I 32 k v := fun v => wr_nat (by rw [sz32]; omega)
  unfold goF at hQ
  rw [hop, g4, g6, toNat_c] at hQ
  refine t28_0 I ?_
  dsimp only
  rw [e11, r32, w32, r30, r31, wrap_of (x := g + 1) (by omega) (by omega)]
  generalize hJ : upd2 I 32 k (g + 1) = J at hQ
  have ej : ∀ id, id ≠ 32 → J id = I id := fun id hid => by rw [← hJ]; exact upd2_id hid
  have hJP : JP H J k p := by
    refine ⟨g1.fr (fun id h1 h2 => ej id (by omega)), ?_⟩
    rw [ej 26 (by decide), ej 27 (by decide), ej 29 (by decide)]
    exact ⟨g2, g3, g5, g9, g11, g12, g13, g14, g15, g16⟩
  have r10 : rd J 10 (p : Int) = lt H p := by rw [tree_rd (t := 9) (H := H) (Or.inl rfl) h60 1 p (by omega) (by omega) g5]; exact (hJP.1.1.2.1 p g5).1
  rw [r10, b2i_0]
  have hg3 : g = 0 ∨ g = 1 ∨ g = 2 := by omega
  unfold goG at hQ
  refine ⟨fun c1 => ?_, fun c1 => ?_⟩
  · rw [if_neg (by rw [c1]; decide)] at hQ
    refine ⟨fun c2 => ?_, fun c2 => ?_⟩
    · rw [if_neg c2] at hQ
      refine ⟨fun c3 => ?_, fun c3 => ?_⟩
      · rw [if_neg c3] at hQ
        refine ⟨fun c4 => ?_, fun c4 => ?_⟩
        · rw [if_neg c4] at hQ
          refine ⟨fun c5 => ?_, fun c5 => ?_⟩
          · rw [if_neg c5] at hQ
            have hv : isDig (lt H p) = true ∨ isInp (lt H p) = true ∨ isVal (lt H p) = true := by
              rcases hd_cases hH.1 g5 with (q | q | q) | q | q | q | q | q
              · exact Or.inl q
              · exact Or.inr (Or.inl q)
              · exact Or.inr (Or.inr q.1)
              · rw [c1] at q; cases q
              · exact absurd q c2
              · exact absurd q.1 c3
              · exact absurd q.1 c4
              · exact absurd q.1 c5
            exact R_simple hv ⟨_, rfl, hJP.give hQ⟩
          · have c5 : lt H p = 33 := by simpa using c5
            rw [if_pos c5] at hQ
            exact R_callsF hH hJP c5 ⟨rfl, hQ⟩
        · have c4 : lt H p = 64 := by simpa using c4
          rw [if_pos c4] at hQ
          exact R_defines hH hJP c4 ⟨rfl, hQ⟩
      · have c3 : lt H p = 58 := by simpa using c3
        rw [if_pos c3] at hQ
        exact R_binds hH hJP c3 ⟨rfl, hQ⟩
    · have c2 : lt H p = 63 := by simpa using c2
      rw [if_pos c2] at hQ
      exact R_chooses hH hJP c2 ⟨rfl, hQ⟩
  · have c1 : isOpr (lt H p) = true := by simpa using c1
    rw [if_pos c1] at hQ
    exact R_operates hH hJP c1 hg3 ⟨rfl, hQ⟩
end Turn
