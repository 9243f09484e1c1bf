/-! Each method of the class and the model's one of the same name, one after the other. -/
def Both (S : Sta) (I : Mem) : Prop := Good S ∧ RelC I S ∧ RelM I S
def Pair (kc km : Nat) (A : List (Nat × AV)) : Prop := ∀ I S, Both S I → R kc 0 ((0, .inr (some 0)) :: A) [] I (fun r I1 => ∃ v, r = some (.inl v) ∧ R km 0 ((0, .inr (some 77)) :: A) [] I1 (fun r2 I2 => r2 = some (.inl v) ∧ ∃ S', Both S' I2))
theorem RelM.hi {I J : Mem} {S : Sta} (h : RelM I S) (e : FrHi I J) : RelM J S := h.fr (fun id hid => e id (by omega)) (fun k _ => by rw [e 77 (Nat.le_refl _)])
theorem RelC.lo {I J : Mem} {S : Sta} (h : RelC I S) (e : FrLo I J) : RelC J S := h.fr (fun id hid => e id (by omega))
theorem goodType {S : Sta} (c : Int) (h : Good S) : Good (oType c S).2 := by
  obtain ⟨h1, h2, h3, h4, h5, h6⟩ := id h
  unfold oType
  split
  · exact h
  · split
    · exact h
    · exact ⟨h1, h2, h3, h4, by show (S.2.2.2.1 ++ [c]).length ≤ 60; rw [List.length_append, List.length_singleton]; omega, h6⟩
theorem goodClear {S : Sta} (h : Good S) : Good (oClear S).2 := ⟨h.1, h.2.1, h.2.2.1, h.2.2.2.1, Nat.zero_le _, h.2.2.2.2.2⟩
theorem goodComes {S : Sta} (y v : Int) (h : Good S) : Good (oComes y v S).2 := by
  obtain ⟨h1, h2, h3, h4, h5, h6⟩ := id h
  unfold oComes
  split
  · exact h
  · exact ⟨h1, h2, h3, h4, h5, by show S.2.2.2.2.1.1 + 1 ≤ 3; omega⟩
theorem goodForget {S : Sta} (h : Good S) : Good (oForget S).2 := ⟨h.1, h.2.1, h.2.2.1, h.2.2.2.1, h.2.2.2.2.1, Nat.zero_le _⟩
theorem goodInputs {S : Sta} (x y : Int) (h : Good S) : Good (oInputs x y S).2 := by
  unfold oInputs
  split
  · exact h
  · exact h.push h.1
theorem goodUndo {S : Sta} (h : Good S) : Good (oUndo S).2 := by
  obtain ⟨h1, h2, h3, h4⟩ := id h
  unfold oUndo
  split
  · exact h
  · exact ⟨h3 _ (by omega), by show S.2.1.1 - 1 ≤ 8; omega, fun k hk => h3 k (by have : k < S.2.1.1 - 1 := hk; omega), h4⟩
theorem goodShrinks {S : Sta} (n : Int) (h : Good S) : Good (oShrinks n S).2 := by
  unfold oShrinks
  split
  · exact h
  · split
    · exact h
    · exact h.push (simp_prog _ h.1).1
theorem goodReads {S S' : Sta} {v : Int} (h : Good S) (hO : OpReads S v S') : Good S' := by
  rcases hO with ⟨e, _, _, rfl⟩ | ⟨_, H', hp, _, _, rfl⟩
  · exact h
  · exact ⟨hp, phN_le h.2.1, phH_prog h.2.1 h.2.2.1 h.1, h.2.2.2.1, Nat.zero_le _, h.2.2.2.2.2⟩
theorem goodKeep {S : Sta} (i : Int) (h : Good S) : Good (oKeep i S).2 := by
  obtain ⟨h1, h2, h3, h4, h5⟩ := id h
  unfold oKeep
  split
  · exact h
  · refine ⟨h1, h2, h3, fun j hj hd => ?_, h5⟩
    show prog (if j = i.toNat then S.1 else S.2.2.1.2 j).1
    by_cases e : j = i.toNat
    · rw [if_pos e]; exact h1
    · rw [if_neg e]
      refine h4 j hj ?_
      have hd : (if j = i.toNat then true else S.2.2.1.1 j) = true := hd
      rw [if_neg e] at hd
      exact hd
theorem goodBack {S : Sta} (i : Int) (h : Good S) : Good (oBack i S).2 := by
  obtain ⟨h1, h2, h3, h4, h5⟩ := id h
  unfold oBack
  split
  · exact h
  · rename_i hi
    have hi : 0 ≤ i ∧ i ≤ 1 := Decidable.byContradiction hi
    split
    · exact h
    · rename_i hd
      refine ⟨h4 _ (by omega) ?_, Nat.zero_le _, fun k hk => absurd hk (Nat.not_lt_zero _), h4, h5⟩
      cases e : S.2.2.1.1 i.toNat
      · exact absurd e hd
      · rfl
theorem goodSt {S : Sta} (v : Int) (h : Good S) : Good (stR S v) := h
/-- an answer and a state that are the same on both sides -/
theorem pair_mk {kc km : Nat} {A : List (Nat × AV)} (v : Sta → Int) (f : Sta → Sta) (hg : ∀ S, Good S → Good (f S))
    (hc : ∀ (I : Mem) (S : Sta) (Q : Post), Good S → RelC I S → (∀ I', RelC I' (f S) → FrHi I I' → Q (some (.inl (v S))) I') → R kc 0 ((0, .inr (some 0)) :: A) [] I Q)
    (hm : ∀ (I : Mem) (S : Sta) (Q : Post), Good S → RelM I S → (∀ I', RelM I' (f S) → FrLo I I' → Q (some (.inl (v S))) I') → R km 0 ((0, .inr (some 77)) :: A) [] I Q) : Pair kc km A := by
  intro I S ⟨hG, h1, h2⟩
  refine hc I S _ hG h1 (fun I1 k1 f1 => ⟨v S, rfl, ?_⟩)
  exact hm I1 S _ hG (h2.hi f1) (fun I2 k2 f2 => ⟨rfl, f S, hg S hG, k1.lo f2, k2⟩)
/-- answers that look only -/
theorem pair_look {kc km : Nat} {A : List (Nat × AV)} (v : Sta → Int)
    (hc : ∀ (I : Mem) (S : Sta) (Q : Post), Good S → RelC I S → Q (some (.inl (v S))) I → R kc 0 ((0, .inr (some 0)) :: A) [] I Q)
    (hm : ∀ (I : Mem) (S : Sta) (Q : Post), Good S → RelM I S → (∀ I', RelM I' S → FrLo I I' → Q (some (.inl (v S))) I') → R km 0 ((0, .inr (some 77)) :: A) [] I Q) : Pair kc km A :=
  pair_mk v (fun S => S) (fun _ h => h) (fun I S Q hG h hQ => hc I S Q hG h (hQ I h (fun _ _ => rfl))) hm
theorem p_type (c : Int) : Pair 76 114 [(1, .inl c)] := pair_mk (fun S => (oType c S).1) (fun S => (oType c S).2) (fun _ h => goodType c h) (fun I S Q a b q => C_type a b q) (fun I S Q a b q => M_type a b q)
theorem p_clear : Pair 77 115 [] := pair_mk (fun S => (oClear S).1) (fun S => (oClear S).2) (fun _ h => goodClear h) (fun I S Q a b q => C_clear b q) (fun I S Q a b q => M_clear b q)
theorem p_reads : Pair 78 123 [] := by
  intro I S ⟨hG, h1, h2⟩
  refine C_reads hG h1 (fun v S' I1 hO k1 f1 => ⟨v, rfl, ?_⟩)
  exact M_reads hG (h2.hi f1) hO (fun I2 k2 f2 => ⟨rfl, S', goodReads hG hO, k1.lo f2, k2⟩)
theorem p_inputs (x y : Int) : Pair 79 136 [(1, .inl x), (2, .inl y)] := pair_mk (fun S => (oInputs x y S).1) (fun S => (oInputs x y S).2) (fun _ h => goodInputs x y h) (fun I S Q a b q => C_inputs a b q) (fun I S Q a b q => M_inputs a b q)
theorem p_shrinks (n : Int) : Pair 80 150 [(1, .inl n)] := pair_mk (fun S => (oShrinks n S).1) (fun S => (oShrinks n S).2) (fun _ h => goodShrinks n h) (fun I S Q a b q => C_shrinks a b q) (fun I S Q a b q => M_shrinks a b q)
theorem p_undo : Pair 81 137 [] := pair_mk (fun S => (oUndo S).1) (fun S => (oUndo S).2) (fun _ h => goodUndo h) (fun I S Q a b q => C_undo a b q) (fun I S Q a b q => M_undo a b q)
theorem p_part (p w : Int) : Pair 82 153 [(1, .inl p), (2, .inl w)] := pair_look (fun S => oPart p w S.1.1) (fun I S Q a b q => C_part a b q) (fun I S Q a b q => M_part a b q)
theorem p_told (k : Int) : Pair 83 154 [(1, .inl k)] := pair_look (fun S => oTold k S.1.1) (fun I S Q a b q => C_told a b q) (fun I S Q a b q => M_told a b q)
theorem p_uses (c : Int) : Pair 84 155 [(1, .inl c)] := pair_look (fun S => oUses c S.1.1) (fun I S Q a b q => C_uses a b q) (fun I S Q a b q => M_uses a b q)
theorem p_function (c w : Int) : Pair 85 156 [(1, .inl c), (2, .inl w)] := pair_look (fun S => oFun c w S.1.1) (fun I S Q a b q => C_function a b q) (fun I S Q a b q => M_function a b q)
theorem p_last (p : Int) : Pair 86 157 [(1, .inl p)] := pair_look (fun S => oLast p S.1.1) (fun I S Q a b q => C_last a b q) (fun I S Q a b q => M_last a b q)
theorem p_run : Pair 87 169 [] := by
  intro I S ⟨hG, h1, h2⟩
  refine C_run hG h1 (fun τ I1 hτ k1 f1 => ⟨_, rfl, ?_⟩)
  exact M_run hG (h2.hi f1) hτ (fun I2 k2 f2 => ⟨rfl, _, goodSt _ hG, k1.lo f2, k2⟩)
theorem p_status : Pair 88 170 [] := pair_look (fun S => S.2.2.2.2.2) (fun I S Q a b q => C_status b q) (fun I S Q a b q => M_status b q)
theorem p_cost (w : Int) : Pair 89 171 [(1, .inl w)] := by
  intro I S ⟨hG, h1, h2⟩
  refine C_cost hG h1 (fun τ I1 hτ k1 f1 => ⟨_, rfl, ?_⟩)
  exact M_cost hG (h2.hi f1) hτ (fun I2 k2 f2 => ⟨rfl, _, hG, k1.lo f2, k2⟩)
theorem p_frames (w : Int) : Pair 90 172 [(1, .inl w)] := by
  intro I S ⟨hG, h1, h2⟩
  refine C_frames hG h1 (fun τ I1 hτ k1 f1 => ⟨_, rfl, ?_⟩)
  exact M_frames hG (h2.hi f1) hτ (fun I2 k2 f2 => ⟨rfl, _, hG, k1.lo f2, k2⟩)
theorem p_often (p : Int) : Pair 91 173 [(1, .inl p)] := by
  intro I S ⟨hG, h1, h2⟩
  refine C_often hG h1 (fun τ I1 hτ k1 f1 => ⟨_, rfl, ?_⟩)
  exact M_often hG (h2.hi f1) hτ (fun I2 k2 f2 => ⟨rfl, _, hG, k1.lo f2, k2⟩)
theorem p_next (w : Int) : Pair 92 151 [(1, .inl w)] := pair_mk (fun S => oNext w S.1.1) (fun S => S) (fun _ h => h) (fun I S Q a b q => C_next a b q) (fun I S Q a b q => M_next a b q)
theorem p_shortest (w : Int) : Pair 93 152 [(1, .inl w)] := pair_mk (fun S => oShortest w S.1.1) (fun S => S) (fun _ h => h) (fun I S Q a b q => C_shortest a b q) (fun I S Q a b q => M_shortest a b q)
theorem p_comes (y v : Int) : Pair 94 174 [(1, .inl y), (2, .inl v)] := pair_mk (fun S => (oComes y v S).1) (fun S => (oComes y v S).2) (fun _ h => goodComes y v h) (fun I S Q a b q => C_comes a b q) (fun I S Q a b q => M_comes a b q)
theorem p_forget : Pair 95 175 [] := pair_mk (fun S => (oForget S).1) (fun S => (oForget S).2) (fun _ h => goodForget h) (fun I S Q a b q => C_forget b q) (fun I S Q a b q => M_forget b q)
theorem p_fits : Pair 96 177 [] := by
  intro I S ⟨hG, h1, h2⟩
  refine C_fits hG h1 (fun f I1 hA k1 f1 => ⟨_, rfl, ?_⟩)
  exact M_fits hG (h2.hi f1) hA (fun I2 k2 f2 => ⟨rfl, _, hG, k1.lo f2, k2⟩)
theorem p_keep (i : Int) : Pair 97 178 [(1, .inl i)] := pair_mk (fun S => (oKeep i S).1) (fun S => (oKeep i S).2) (fun _ h => goodKeep i h) (fun I S Q a b q => C_keep a b q) (fun I S Q a b q => M_keep a b q)
theorem p_back (i : Int) : Pair 98 179 [(1, .inl i)] := pair_mk (fun S => (oBack i S).1) (fun S => (oBack i S).2) (fun _ h => goodBack i h) (fun I S Q a b q => C_back a b q) (fun I S Q a b q => M_back a b q)
theorem p_count (w : Int) : Pair 99 180 [(1, .inl w)] := pair_look (fun S => oCount w S) (fun I S Q a b q => C_count a b q) (fun I S Q a b q => M_count a b q)
theorem p_input (k : Int) : Pair 100 181 [(1, .inl k)] := pair_look (fun S => oInput k S.1) (fun I S Q a b q => C_input b q) (fun I S Q a b q => M_input b q)
