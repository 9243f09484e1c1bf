/-! The other kinds of a turn. -/
theorem AnaOK.fr {H : List Hd} {I J : Mem} (h : AnaOK I H) (e : ∀ id, 9 ≤ id → id ≤ 25 → J id = I id) : AnaOK J H := by
  refine ⟨h.1.fr (fun i hi => e _ (by omega) (by omega)), ?_⟩
  unfold FlowOK
  rw [e 21 (by decide) (by decide), e 22 (by decide) (by decide), e 23 (by decide) (by decide), e 24 (by decide) (by decide), e 25 (by decide) (by decide)]
  exact h.2
theorem lnkF_id {J : Mem} {o n v : Int} {id : Nat} (h1 : id ≠ 26) (h2 : id ≠ 34) (h3 : id ≠ 35) (h4 : id ≠ 36) : lnkF J o n v id = J id := by
  unfold lnkF
  rw [upd2_id h1, upd2_id h4, upd2_id h3, upd2_id h2]
theorem lnkF_26 {J : Mem} {o n v : Int} {r : Nat} (h : r ≠ 15) : lnkF J o n v 26 r = J 26 r := by
  unfold lnkF
  simp [upd2, h]
section Turn
variable {H : List Hd} {J : Mem} {k p : Nat} {s : Int} {Q : Post}
/-- a new link hurts nothing that begin needs -/
theorem JP.lbeg (hH : prog H) (h : JP H J k p) {q : Nat} (hq : q < H.length) {o n v s' : Int} (hQ : Q none (begF (lnkF J o n v) q s')) : R 26 0 [(0, .inr (some 26)), (1, .inl (q : Int)), (2, .inl s')] [] (lnkF J o n v) Q := by
  have h60 := prog_60 hH
  obtain ⟨-, j1, -, -, j4, -, -, -, -, j8, -⟩ := h
  refine R_begin (by omega) (by rw [lnkF_26 (by decide)]; exact j4) (by rw [lnkF_26 (by decide)]; omega) ?_ hQ
  rw [lnkF_id (by decide) (by decide) (by decide) (by decide)]
  exact j8 q (by omega)
theorem JP.give (h : JP H J k p) {v : Int} (hQ : Q none (givF J v)) : Q none (upd2 (upd2 J 26 1 v) 26 11 (wrap (J 26 11 - 1))) := R_give (by rw [h.2.1]; have := h.2.2.1; omega) hQ
theorem JP.first (hH : prog H) (h : JP H J k p) (h1 : 0 < pts (lt H p)) (hQ : Q none (begF J (kp H p 0) s)) : R 26 0 [(0, .inr (some 26)), (1, .inl (wrap ((p : Int) + 1))), (2, .inl s)] [] J Q := by
  have h60 := prog_60 hH
  have hp := h.2.2.2.1
  have hk := kp_len (prog_wfa hH) hp h1
  rw [kp_zero] at hQ hk
  rw [wrap_succ (by omega)]
  exact h.beg hH hk hQ
theorem R_chooses (hH : prog H) (h : JP H J k p) (ho : lt H p = 63) {g : Int}
    (hQ : Q none (if g = 0 then begF J (kp H p 0) s else if g = 1 then begF J (if J 26 1 = 0 then kp H p 1 else kp H p 2) s else givF J (J 26 1))) :
    R 30 0 [(0, .inr (some 26)), (1, .inr (some 9)), (2, .inl (p : Int)), (3, .inl s), (4, .inl g)] [] J Q := by
  have hw := prog_wfa hH
  have hp := h.2.2.2.1
  have hpt : pts (lt H p) = 3 := by rw [ho]; rfl
  refine t30_0 J _ _ _ ⟨fun g0 => ⟨fun g1 => ?_, fun g1 => ⟨fun z => ?_, fun z => ?_⟩⟩, fun g0 => ?_⟩
  · rw [if_neg g0, if_neg g1] at hQ
    exact h.give hQ
  · rw [if_neg g0, if_pos (by simpa using g1), if_neg z] at hQ
    rw [h.third hH (by omega)]
    exact h.beg hH (kp_len hw hp (by omega)) ⟨rfl, hQ⟩
  · rw [if_neg g0, if_pos (by simpa using g1), if_pos (by simpa using z)] at hQ
    rw [h.second hH (by omega)]
    exact h.beg hH (kp_len hw hp (by omega)) ⟨rfl, hQ⟩
  · rw [if_pos (by simpa using g0)] at hQ
    exact h.first hH (by omega) ⟨rfl, hQ⟩
theorem R_binds (hH : prog H) (h : JP H J k p) (ho : lt H p = 58) {g : Int}
    (hQ : Q none (if g = 0 then begF J (kp H p 0) s else if g = 1 then begF (lnkF J s (nm H p) (J 26 1)) (kp H p 1) (J 26 15) else givF J (J 26 1))) :
    R 31 0 [(0, .inr (some 26)), (1, .inr (some 9)), (2, .inl (p : Int)), (3, .inl s), (4, .inl g)] [] J Q := by
  have hw := prog_wfa hH
  have h60 := prog_60 hH
  have hp := h.2.2.2.1
  have hpt : pts (lt H p) = 2 := by rw [ho]; rfl
  have r11 : rd J 11 (p : Int) = nm H p := by rw [tree_rd (t := 9) (H := H) (Or.inl rfl) h60 2 p (by omega) (by omega) hp]; exact (h.1.1.2.1 p hp).2.1
  refine t31_0 J _ _ _ ⟨fun g0 => ⟨fun g1 => ?_, fun g1 => ?_⟩, fun g0 => ?_⟩
  · rw [if_neg g0, if_neg g1] at hQ
    exact h.give hQ
  · rw [if_neg g0, if_pos (by simpa using g1)] at hQ
    dsimp only
    rw [h.second hH (by omega), r11, link_eq h.2.2.2.2.2.1 h.2.2.2.2.2.2.1]
    exact h.lbeg hH (kp_len hw hp (by omega)) ⟨rfl, hQ⟩
  · rw [if_pos (by simpa using g0)] at hQ
    exact h.first hH (by omega) ⟨rfl, hQ⟩
theorem R_defines (hH : prog H) (h : JP H J k p) (ho : lt H p = 64) {g : Int}
    (hQ : Q none (if g = 0 then begF (lnkF J s (nm H p) 0) (kp H p 1) (J 26 15) else givF J (J 26 1))) :
    R 32 0 [(0, .inr (some 26)), (1, .inr (some 9)), (2, .inl (p : Int)), (3, .inl s), (4, .inl g)] [] J Q := by
  have hw := prog_wfa hH
  have h60 := prog_60 hH
  have hp := h.2.2.2.1
  have hpt : pts (lt H p) = 2 := by rw [ho]; rfl
  have r11 : rd J 11 (p : Int) = nm H p := by rw [tree_rd (t := 9) (H := H) (Or.inl rfl) h60 2 p (by omega) (by omega) hp]; exact (h.1.1.2.1 p hp).2.1
  refine t32_0 J _ _ _ ⟨fun g0 => ?_, fun g0 => ?_⟩
  · rw [if_neg g0] at hQ
    exact h.give hQ
  · rw [if_pos (by simpa using g0)] at hQ
    dsimp only
    rw [h.second hH (by omega), r11, link_eq h.2.2.2.2.2.1 h.2.2.2.2.2.2.1]
    exact h.lbeg hH (kp_len hw hp (by omega)) ⟨rfl, hQ⟩
theorem R_simple {c : Int} (hv : isDig c = true ∨ isInp c = true ∨ isVal c = true) (hQ : Q (some (.inl (if isDig c = true then c - 48 else if c = 120 then J 26 16 else if c = 121 then J 26 17 else rd J 35 (fndF J c 300 s)))) J) :
    R 37 0 [(0, .inr (some 26)), (1, .inl c), (2, .inl s)] [] J Q := by
  refine t37_0 J _ _ ?_
  rw [b2i_0]
  refine ⟨fun d => ⟨fun x => ⟨fun y => ?_, fun y => ?_⟩, fun x => ?_⟩, fun d => ?_⟩
  · rw [if_neg (by rw [d]; decide), if_neg x, if_neg y] at hQ
    exact R_find ⟨_, rfl, hQ⟩
  · rw [if_neg (by rw [d]; decide), if_neg x, if_pos (by simpa using y)] at hQ
    exact hQ
  · rw [if_neg (by rw [d]; decide), if_pos (by simpa using x)] at hQ
    exact hQ
  · have d : isDig c = true := by simpa using d
    rw [if_pos d] at hQ
    have : 48 ≤ c ∧ c ≤ 57 := by simpa [isDig] using d
    rw [wrap_of (by omega) (by omega)]
    exact hQ
end Turn
