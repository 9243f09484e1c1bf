/-! Moments, and the class's history. -/
abbrev Snap : Type := List Hd × Int × Int
def Mom (I : Mem) (m : Nat) (s : Snap) : Prop := I m 1 = ((tk s.1).length : Int) ∧ Txt I (m + 1) (tk s.1) ∧ I m 2 = s.2.1 ∧ I m 3 = s.2.2
theorem Mom.fr {I J : Mem} {m : Nat} {s : Snap} (h : Mom I m s) (e1 : J m = I m) (e2 : J (m + 1) = I (m + 1)) : Mom J m s := by
  unfold Mom Txt
  rw [e1, e2]
  exact h
def HPr (m sg : Nat) : Prop := (m = 7 ∧ (sg = 3 ∨ sg = 38 ∨ sg = 54 ∨ sg = 56 ∨ sg = 58 ∨ sg = 60 ∨ sg = 62 ∨ sg = 64 ∨ sg = 66 ∨ sg = 68 ∨ sg = 71 ∨ sg = 73)) ∨ (sg = 8 ∧ (m = 53 ∨ m = 55 ∨ m = 57 ∨ m = 59 ∨ m = 61 ∨ m = 63 ∨ m = 65 ∨ m = 67 ∨ m = 70 ∨ m = 72))
def BPr (m o : Nat) : Prop := (m = 7 ∧ (o = 53 ∨ o = 55 ∨ o = 57 ∨ o = 59 ∨ o = 61 ∨ o = 63 ∨ o = 65 ∨ o = 67 ∨ o = 70 ∨ o = 72)) ∨ (o = 7 ∧ (m = 53 ∨ m = 55 ∨ m = 57 ∨ m = 59 ∨ m = 61 ∨ m = 63 ∨ m = 65 ∨ m = 67 ∨ m = 70 ∨ m = 72))
theorem HPr.sz {m sg : Nat} (h : HPr m sg) : sz (m + 1) = 60 ∧ sz sg = 60 := by
  rcases h with ⟨rfl, rfl | rfl | rfl | rfl | rfl | rfl | rfl | rfl | rfl | rfl | rfl | rfl⟩ | ⟨rfl, rfl | rfl | rfl | rfl | rfl | rfl | rfl | rfl | rfl | rfl⟩ <;> exact ⟨rfl, rfl⟩
theorem HPr.ne {m sg : Nat} (h : HPr m sg) : sg ≠ m ∧ sg ≠ m + 1 := by
  unfold HPr at h
  omega
theorem BPr.hp {m o : Nat} (h : BPr m o) : HPr m (o + 1) ∧ o ≠ m ∧ o ≠ m + 1 ∧ m ≠ o + 1 := by
  unfold BPr at h
  unfold HPr
  omega
theorem hold_loop {m sg : Nat} (hp : HPr m sg) {H : List Hd} (hx : (tk H).length ≤ 60) {I0 : Mem} (h1 : I0 m 1 = ((tk H).length : Int)) (hT : Txt I0 sg (tk H)) {Q : Post} (hQ : ∀ I', (∀ id, id ≠ m + 1 → I' id = I0 id) → Txt I' (m + 1) (tk H) → Q none I') :
    ∀ (d i : Nat) (I : Mem), i + d = (tk H).length → (∀ id, id ≠ m + 1 → I id = I0 id) → (∀ j, j < i → I (m + 1) j = (tk H).getD j 0) → R 38 12 [(0, .inr (some m)), (1, .inr (some sg)), (3, .inl (i : Int))] [] I Q := by
  intro d
  induction d with
  | zero =>
    intro i I hi hF hD
    have hi : i = (tk H).length := by omega
    subst hi
    refine t38_12 m sg hp I _ ⟨fun _ => hQ I hF hD, fun q => absurd ?_ q⟩
    rw [hF m (by omega), h1]
    exact Int.le_refl _
  | succ d ih =>
    intro i I hi hF hD
    have e1 : I m 1 = ((tk H).length : Int) := by rw [hF m (by omega)]; exact h1
    refine t38_12 m sg hp I _ ⟨fun q => ?_, fun _ => ?_⟩
    · rw [e1] at q; omega
    dsimp only
    rw [wr_nat (id := m + 1) (by rw [hp.sz.1]; omega), rd_nat (by rw [hp.sz.2]; omega), wrap_succ (by omega)]
    refine ih (i + 1) _ (by omega) (fun id hid => by rw [upd2_id hid]; exact hF id hid) (fun j hj => ?_)
    rw [upd2_at]
    by_cases hji : j = i
    · subst hji
      rw [if_pos ⟨rfl, rfl⟩, hF sg hp.ne.2]
      exact hT j (by omega)
    · rw [if_neg (fun q => hji q.2)]
      exact hD j (by omega)
theorem R_hold {m sg : Nat} (hp : HPr m sg) {H : List Hd} (hx : (tk H).length ≤ 60) {I : Mem} (hT : Txt I sg (tk H)) {Q : Post} (hQ : ∀ I', (∀ id, id ≠ m → id ≠ m + 1 → I' id = I id) → (∀ k, k ≠ 1 → I' m k = I m k) → I' m 1 = ((tk H).length : Int) → Txt I' (m + 1) (tk H) → Q none I') :
    R 38 0 [(0, .inr (some m)), (1, .inr (some sg)), (2, .inl ((tk H).length : Int))] [] I Q := by
  refine t38_0 m sg hp I _ ?_
  dsimp only
  rw [show min ((tk H).length : Int) 60 = ((tk H).length : Int) by omega]
  have e : ∀ k, k ≠ 1 → upd2 I m 1 ((tk H).length : Int) m k = I m k := fun k hk => by rw [upd2_at, if_neg (fun q => hk q.2)]
  refine hold_loop hp hx (I0 := upd2 I m 1 ((tk H).length : Int)) (by simp [upd2]) (fun j hj => ?_) (fun I' h1 h2 => hQ I' (fun id a b => by rw [h1 id b, upd2_id a]) (fun k hk => by rw [h1 m (by omega)]; exact e k hk) (by rw [h1 m (by omega)]; simp [upd2]) h2) (tk H).length 0 _ (by omega) (fun _ _ => rfl) (fun j hj => absurd hj (by omega))
  rw [upd2_id hp.ne.1]
  exact hT j hj
theorem R_become {m o : Nat} (hp : BPr m o) {s : Snap} (hx : (tk s.1).length ≤ 60) {I : Mem} (hM : Mom I o s) {Q : Post} (hQ : ∀ I', (∀ id, id ≠ m → id ≠ m + 1 → I' id = I id) → Mom I' m s → Q none I') :
    R 39 0 [(0, .inr (some m)), (1, .inr (some o))] [] I Q := by
  obtain ⟨p1, p2, p3, p4⟩ := hp.hp
  refine t39_0 m o hp I ?_
  rw [hM.1]
  refine R_hold p1 hx hM.2.1 (fun I1 f1 f2 f3 f4 => ⟨rfl, ?_⟩)
  dsimp only
  have eo : I1 o = I o := f1 o p2 p3
  rw [upd2_id p2, eo, hM.2.2.1, hM.2.2.2]
  refine hQ _ (fun id a b => by rw [upd2_id a, upd2_id a]; exact f1 id a b) ⟨?_, fun j hj => ?_, ?_, ?_⟩
  · rw [upd2_at, if_neg (by omega), upd2_at, if_neg (by omega)]; exact f3
  · rw [upd2_id (by omega), upd2_id (by omega)]; exact f4 j hj
  · simp [upd2]
  · simp [upd2]
theorem irem8 {n : Nat} (h : n < 16) : irem (n : Int) 8 = ((n % 8 : Nat) : Int) := by
  have key : ∀ k : Fin 16, irem ((k.val : Nat) : Int) 8 = ((k.val % 8 : Nat) : Int) := by decide
  exact key ⟨n, h⟩
def pid (o k : Nat) : Nat := 53 + 2 * ((o + k) % 8)
theorem past_rf {j : Nat} (h : j < 8) : rf 52 j = some (53 + 2 * j) := by
  have key : ∀ k : Fin 8, rf 52 k.val = some (53 + 2 * k.val) := by decide
  exact key ⟨j, h⟩
theorem pid_cases (o k : Nat) : pid o k = 53 ∨ pid o k = 55 ∨ pid o k = 57 ∨ pid o k = 59 ∨ pid o k = 61 ∨ pid o k = 63 ∨ pid o k = 65 ∨ pid o k = 67 := by
  unfold pid
  omega
def HistC (I : Mem) (n : Nat) (h : Nat → Snap) : Prop := n ≤ 8 ∧ I 51 2 = (n : Int) ∧ ∃ o : Nat, o < 8 ∧ I 51 1 = (o : Int) ∧ ∀ k, k < n → Mom I (pid o k) (h k)
theorem HistC.fr {I J : Mem} {n : Nat} {h : Nat → Snap} (hh : HistC I n h) (e : ∀ id, 51 ≤ id → id ≤ 68 → J id = I id) : HistC J n h := by
  obtain ⟨h1, h2, o, h3, h4, h5⟩ := hh
  refine ⟨h1, by rw [e 51 (by omega) (by omega)]; exact h2, o, h3, by rw [e 51 (by omega) (by omega)]; exact h4, fun k hk => ?_⟩
  have := pid_cases o k
  exact (h5 k hk).fr (e _ (by omega) (by omega)) (e _ (by omega) (by omega))
/-- one more is recorded -/
def phN (n : Nat) : Nat := if n = 8 then 8 else n + 1
def phH (n : Nat) (h : Nat → Snap) (s : Snap) : Nat → Snap := if n = 8 then (fun k => if k < 7 then h (k + 1) else s) else (fun k => if k < n then h k else s)
theorem R_past {o k : Nat} {i : Int} {I : Mem} {Q : Post} (hi : i = (((o + k) % 8 : Nat) : Int)) (h : Q (some (.inr (some (pid o k)))) I) : R 105 0 [(0, .inr (some 52)), (1, .inl i)] [] I Q := by
  subst hi
  refine R_momentAt rfl ?_
  rw [if_pos ⟨by omega, by show _ < (8 : Int); omega⟩, toNat_c, past_rf (by omega)]
  exact h
theorem R_remember {I : Mem} {n : Nat} {h : Nat → Snap} {s : Snap} (hH : HistC I n h) (hM : Mom I 7 s) (hx : (tk s.1).length ≤ 60) {Q : Post} (hQ : ∀ I', HistC I' (phN n) (phH n h s) → (∀ id, (id < 51 ∨ 68 < id) → I' id = I id) → Q none I') :
    R 13 0 [(0, .inr (some 51)), (1, .inr (some 7))] [] I Q := by
  obtain ⟨n8, hn, o, ho, h1, hP⟩ := hH
  -- the rest, from a memory with n' < 8 recorded
  have rest : ∀ (J : Mem) (n' o' : Nat) (h' : Nat → Snap), n' < 8 → o' < 8 → J 51 2 = (n' : Int) → J 51 1 = (o' : Int) → (∀ id, id ≠ 51 → J id = I id) → (∀ k, k < n' → Mom J (pid o' k) (h' k)) → phN n = n' + 1 → phH n h s = (fun k => if k < n' then h' k else s) →
      R 105 0 [(0, .inr (some 52)), (1, .inl (irem (wrap ((J 51 1) + (J 51 2))) 8))] [] J (fun r1 I1 => R 13 51 [(0, .inr (some 51)), (1, .inr (some 7))] (r1.toList ++ []) I1 Q) := by
    intro J n' o' h' hn' ho' j2 j1 jf jP e1 e2
    refine R_past (o := o') (k := n') ?_ ?_
    · rw [j1, j2, wrap_of (by omega) (by omega), show (o' : Int) + (n' : Int) = ((o' + n' : Nat) : Int) by omega, irem8 (by omega)]
    · show R 13 51 _ [.inr (some (pid o' n'))] J Q
      have hc := pid_cases o' n'
      refine t13_51m (pid o' n') hc J (R_become (m := pid o' n') (o := 7) (Or.inr ⟨rfl, by omega⟩) hx (hM.fr (jf 7 (by decide)) (jf 8 (by decide))) (fun I1 f1 m1 => ⟨rfl, ?_⟩))
      dsimp only
      have i2 : I1 51 = J 51 := f1 51 (by omega) (by omega)
      rw [i2, j2, wrap_succ (by omega)]
      generalize hK : upd2 I1 51 2 ((n' + 1 : Nat) : Int) = K
      have kf : ∀ id, id ≠ 51 → K id = I1 id := fun id a => by rw [← hK]; exact upd2_id a
      refine hQ K ⟨by rw [e1]; omega, by rw [e1, ← hK]; simp [upd2], o', ho', ?_, fun k hk => ?_⟩ (fun id hid => by rw [kf id (by omega), f1 id (by omega) (by omega), jf id (by omega)])
      · rw [← hK, upd2_at, if_neg (by omega), i2]; exact j1
      · rw [e1] at hk
        rw [e2]
        have hc2 := pid_cases o' k
        dsimp only
        by_cases hkn : k < n'
        · rw [if_pos hkn]
          have hne : pid o' k ≠ pid o' n' := by unfold pid; omega
          have hne2 : pid o' k + 1 ≠ pid o' n' := by unfold pid; omega
          have hne3 : pid o' k ≠ pid o' n' + 1 := by unfold pid; omega
          exact (jP k hkn).fr (by rw [kf _ (by omega), f1 _ hne hne3]) (by rw [kf _ (by omega), f1 _ hne2 (by omega)])
        · rw [if_neg hkn]
          have : k = n' := by omega
          subst this
          exact m1.fr (kf _ (by omega)) (kf _ (by omega))
  refine t13_0 I ⟨fun c => ⟨by decide, ?_⟩, fun c => ⟨by decide, ?_⟩⟩
  · have c : n ≠ 8 := by intro z; rw [hn, z] at c; exact c rfl
    exact rest I n o h (by omega) ho hn h1 (fun _ _ => rfl) hP (by unfold phN; rw [if_neg c]) (by unfold phH; rw [if_neg c])
  · have c : n = 8 := by rw [hn] at c; omega
    subst c
    dsimp only
    refine ⟨by decide, ?_⟩
    have ei : irem (wrap (I 51 1 + 1)) 8 = (((o + 1) % 8 : Nat) : Int) := by rw [h1, wrap_succ (by omega), irem8 (by omega)]
    rw [ei]
    have e7 : wrap (upd2 I 51 1 (((o + 1) % 8 : Nat) : Int) 51 2 - 1) = ((7 : Nat) : Int) := by
      rw [upd2_at, if_neg (by decide), hn]
      decide
    rw [e7]
    refine rest _ 7 ((o + 1) % 8) (fun k => h (k + 1)) (by omega) (by omega) (by simp [upd2]) (by simp [upd2]) (fun id a => by rw [upd2_id a, upd2_id a]) (fun k hk => ?_) rfl rfl
    have ep : pid ((o + 1) % 8) k = pid o (k + 1) := by unfold pid; omega
    have hc := pid_cases o (k + 1)
    rw [ep]
    exact (hP (k + 1) (by omega)).fr (by rw [upd2_id (by omega), upd2_id (by omega)]) (by rw [upd2_id (by omega), upd2_id (by omega)])
theorem R_restore {I : Mem} {n : Nat} {h : Nat → Snap} (hH : HistC I (n + 1) h) (hx : (tk (h n).1).length ≤ 60) {Q : Post} (hQ : ∀ I', HistC I' n h → Mom I' 7 (h n) → (∀ id, id ≠ 7 → id ≠ 8 → id ≠ 51 → I' id = I id) → Q none I') :
    R 14 0 [(0, .inr (some 51)), (1, .inr (some 7))] [] I Q := by
  obtain ⟨n8, hn, o, ho, h1, hP⟩ := hH
  refine t14_0 I ⟨fun _ => ?_, fun c => absurd (by rw [hn]; omega) c⟩
  dsimp only
  rw [hn, wrap_pred (by omega)]
  generalize hJ : upd2 I 51 2 (n : Int) = J
  have jf : ∀ id, id ≠ 51 → J id = I id := fun id a => by rw [← hJ]; exact upd2_id a
  have j2 : J 51 2 = (n : Int) := by rw [← hJ]; simp [upd2]
  have j1 : J 51 1 = (o : Int) := by rw [← hJ, upd2_at, if_neg (by decide)]; exact h1
  refine ⟨by decide, R_past (o := o) (k := n) ?_ ?_⟩
  · rw [j1, j2, wrap_of (by omega) (by omega), show (o : Int) + (n : Int) = ((o + n : Nat) : Int) by omega, irem8 (by omega)]
  · show R 14 37 _ [.inr (some (pid o n))] J Q
    have hc := pid_cases o n
    refine t14_37m (pid o n) hc J (R_become (m := 7) (o := pid o n) (Or.inl ⟨rfl, by omega⟩) hx ((hP n (by omega)).fr (jf _ (by omega)) (jf _ (by omega))) (fun I1 f1 m1 => ⟨rfl, hQ I1 ⟨by omega, by rw [f1 51 (by omega) (by omega)]; exact j2, o, ho, by rw [f1 51 (by omega) (by omega)]; exact j1, fun k hk => ?_⟩ m1 (fun id a b c => by rw [f1 id a (by omega), jf id c])⟩))
    have hc2 := pid_cases o k
    exact (hP k (by omega)).fr (by rw [f1 _ (by omega) (by omega), jf _ (by omega)]) (by rw [f1 _ (by omega) (by omega), jf _ (by omega)])
