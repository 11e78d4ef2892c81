/-! the cells at the law's start -/
abbrev sF1 (ia : Nat → Nat → Int32) (la : Nat → Nat → Int64) : Prop := ia 2 1 = 0 ∧ ia 127 2 = 0 ∧ (∀ k, k < 20 → ia 4 k = nI (zLw.getD k 0)) ∧ ia 1 3 = ia 127 28 ∧ ia 1 4 = ia 127 29
abbrev sF2 (ia : Nat → Nat → Int32) (la : Nat → Nat → Int64) : Prop := ia 6 1 = 0 ∧ ia 6 2 = 0 ∧ ia 6 3 = 0 ∧ (∀ r, r < 3 → ia 35 r = 0 ∧ ia 36 r = 0) ∧ ia 34 0 = 20 ∧ ia 34 1 = 0 ∧ ia 34 2 = 0
abbrev sF3 (ia : Nat → Nat → Int32) (la : Nat → Nat → Int64) : Prop := ia 129 0 = 0 ∧ ia 129 1 = 0 ∧ ia 129 2 = 0 ∧ ia 129 3 = 20 ∧ ia 129 4 = 0 ∧ ia 129 5 = 0 ∧ ia 129 6 = ia 6 4 ∧ (∀ r, r < 3 → ia 141 r = 0 ∧ ia 142 r = 0)
abbrev sF4 (ia : Nat → Nat → Int32) (la : Nat → Nat → Int64) : Prop := ia 72 0 = 0 ∧ (∀ h, h < 6 → ia 73 h = 0 ∧ ia 75 h = -2) ∧ (∀ k, k < 12 → ia 78 k = 0 ∧ ia 79 k = 0 ∧ ia 80 k = 0) ∧ ia 72 11 = 0 ∧ ia 72 12 = 0 ∧ ia 72 13 = 0
abbrev sF5 (ia : Nat → Nat → Int32) (la : Nat → Nat → Int64) : Prop := ia 147 0 = 0 ∧ ia 148 0 = 0 ∧ ia 149 0 = ia 72 14 ∧ ia 150 0 = 0 ∧ ia 151 0 = 0 ∧ (∀ i, i < 18 → ia 152 i = 0) ∧ (∀ i, i < 6 → ia 153 i = -1 ∧ ia 154 i = ia 76 i ∧ ia 155 i = ia 77 i ∧ ia 156 i = 0) ∧ (∀ i, i < 12 → ia 157 i = 0) ∧ (∀ i, i < 36 → ia 158 i = -2)
abbrev sF6 (ia : Nat → Nat → Int32) (la : Nat → Nat → Int64) : Prop := la 72 1 = 0 ∧ ia 127 49 = 0 ∧ ia 127 50 = -1 ∧ ia 127 51 = -1 ∧ ia 0 6 = 0 ∧ ia 127 47 = 0 ∧ ia 113 1 = 0 ∧ ia 113 2 = 0 ∧ ia 127 48 = 0 ∧ ia 106 0 = 0 ∧ ia 127 57 = 0 ∧ ia 106 2 = -1 ∧ ia 127 58 = -1
def sF (ia : Nat → Nat → Int32) (la : Nat → Nat → Int64) : Prop := sF1 ia la ∧ sF2 ia la ∧ sF3 ia la ∧ sF4 ia la ∧ sF5 ia la ∧ sF6 ia la
def sFb (ia : Nat → Nat → Int32) (la : Nat → Nat → Int64) : Bool := decide (sF1 ia la) && (decide (sF2 ia la) && (decide (sF3 ia la) && (decide (sF4 ia la) && (decide (sF5 ia la) && decide (sF6 ia la)))))
theorem sFb_s {ia : Nat → Nat → Int32} {la : Nat → Nat → Int64} (h : sFb ia la = true) : sF ia la := by
  unfold sFb at h
  obtain ⟨h1, h⟩ := Bool.and_eq_true_iff.mp h
  obtain ⟨h2, h⟩ := Bool.and_eq_true_iff.mp h
  obtain ⟨h3, h⟩ := Bool.and_eq_true_iff.mp h
  obtain ⟨h4, h⟩ := Bool.and_eq_true_iff.mp h
  obtain ⟨h5, h6⟩ := Bool.and_eq_true_iff.mp h
  exact ⟨of_decide_eq_true h1, of_decide_eq_true h2, of_decide_eq_true h3, of_decide_eq_true h4, of_decide_eq_true h5, of_decide_eq_true h6⟩
theorem sF_inv {ia : Nat → Nat → Int32} {la : Nat → Nat → Int64} (h : sF ia la) : zInv 6 39 ia la := by
  obtain ⟨⟨a1, a2, a3, a4, a5⟩, ⟨b1, b2, b3, b4, b5, b6, b7⟩, ⟨c1, c2, c3, c4, c5, c6, c7, c8⟩, ⟨d1, d2, d3, d4, d5, d6⟩, ⟨e1, e2, e3, e4, e5, e6, e7, e8, e9⟩, ⟨f1, f2, f3, f4, f5, f6, f7, f8, f9, f10, f11, f12, f13⟩⟩ := h
  have n0 : ∀ n : Nat, ∀ P : Nat → Bool, (∀ k, k < n → P k = false) → zcnt P n = 0 := by
    intro n P
    induction n with
    | zero => intro _; rfl
    | succ n ih =>
      intro h
      unfold zcnt
      rw [h n (by omega), if_neg (by decide)]
      exact ih (fun k hk => h k (by omega))
  have m0 : ∀ n : Nat, ∀ f : Nat → Int32, (∀ k, k < n → f k = 0) → zbm f n = 0 := by
    intro n f h
    apply Nat.eq_of_testBit_eq
    intro i
    rw [zbm_t, Nat.zero_testBit]
    apply decide_eq_false
    rintro ⟨q1, q2⟩
    exact q2 (h i q1)
  refine ⟨Or.inl rfl, Or.inr rfl, by decide, ⟨0, by omega, a1, a2, fun i hi => absurd hi (by omega)⟩, a3, a4, a5, fun g => ia (6 + g), 0, 0, 0, 0, fun g => ia (72 + g), 0, ?_, ?_, ?_, ?_⟩
  · refine ⟨fun g _ => rfl, ?_, ?_, by omega, fun g _ => rfl, ?_, ?_, f1, f2, f3, f4⟩
    · refine ⟨b1, by omega, b2, by omega, b3, by omega, fun k hk => absurd hk (by omega), fun k hk => absurd hk (by omega), fun r hr => ?_, ⟨20, by omega, b5⟩, ⟨0, by omega, b6⟩, ⟨0, by omega, b7⟩, fun i hi => absurd hi (by omega), fun i hi => absurd hi (by omega)⟩
      exact ⟨0, 0, by omega, by omega, (b4 r hr).1, (b4 r hr).2, fun j h1 h2 => absurd h2 (by omega)⟩
    · refine ⟨c1, c2, c3, c4.trans b5.symm, c5.trans b6.symm, c6.trans b7.symm, c7, fun i hi => absurd hi (by omega), fun i hi => absurd hi (by omega), fun i hi => absurd hi (by omega), fun i hi => absurd hi (by omega), fun i hi => absurd hi (by omega), fun r hr => ?_⟩
      have h1 : ia 35 r = 0 := (b4 r hr).1
      have h2 : ia 36 r = 0 := (b4 r hr).2
      refine ⟨(c8 r hr).1.trans h1.symm, (c8 r hr).2.trans h2.symm, fun j q1 q2 => ?_, fun q => ?_⟩
      · have q3 : j < zct (ia 36 r) := q2
        rw [h2] at q3
        exact absurd q3 (Nat.not_lt_zero j)
      · have q3 : zct (ia 35 r) < zct (ia 36 r) := q
        rw [h2] at q3
        exact absurd q3 (Nat.not_lt_zero _)
    · refine ⟨⟨d1, fun h hh => absurd hh (by omega), fun h _ hh => d2 h hh, fun i hi => absurd hi (by omega)⟩, ⟨fun k hk => ⟨Or.inl (d3 k hk).1, Or.inl (d3 k hk).2.1⟩, ?_, ?_⟩, fun k hk => Or.inl (d3 k hk).2.2, ?_⟩
      · rw [n0 12 _ (fun k hk => by show decide (ia 78 k = 2) = false; rw [(d3 k hk).1]; rfl)]; exact d4
      · rw [n0 12 _ (fun k hk => by show decide (¬ ia 79 k = 0) = false; rw [(d3 k hk).2.1]; rfl)]; exact d5
      · rw [n0 12 _ (fun k hk => by show decide (¬ ia 80 k = 0) = false; rw [(d3 k hk).2.2]; rfl)]; exact d6
    · refine ⟨e1.trans d1.symm, e2, e3, ?_, ?_, fun i hi => ?_, fun i hi => ?_, fun i hi => ?_, fun i hi => ?_⟩
      · show ia 150 0 = zbt (ia 79)
        unfold zbt
        rw [m0 12 _ (fun k hk => (d3 k hk).2.1), e4]; rfl
      · show ia 151 0 = zbt (ia 80)
        unfold zbt
        rw [m0 12 _ (fun k hk => (d3 k hk).2.2), e5]; rfl
      · rw [Nat.mul_zero, Nat.zero_add, e6 i hi, if_neg (by omega)]
      · rw [Nat.mul_zero, Nat.zero_add]
        obtain ⟨q1, q2, q3, q4⟩ := e7 i hi
        obtain ⟨q5, q6⟩ := d2 i hi
        refine ⟨?_, q2, q3, q4.trans q5.symm⟩
        show ia 153 i = zet (ia 75 i)
        rw [q1, q6]; decide
      · rw [Nat.mul_zero, Nat.zero_add, e8 i hi]; exact (d3 i hi).1.symm
      · rw [Nat.mul_zero, Nat.zero_add, e9 i hi]
        show _ = if ia 78 (i / 3) = 0 then _ else _
        rw [if_pos (d3 (i / 3) (by omega)).1]
  · exact ⟨f5.trans f6.symm, Or.inl f6⟩
  · exact ⟨0, 0, fun _ => fun g => ia (72 + g), by omega, by omega, f7, f8, f9, rfl, fun i hi => absurd hi (by omega)⟩
  · exact ⟨0, by omega, f10, f11, f12.trans f13.symm, Or.inl f13, fun k hk => absurd hk (by omega)⟩
def sG (h : Nat → Nat → Option Nat) : Bool := (List.range 170).all fun k => if zkd k = 104 then (List.range (zln k)).all fun j => decide (h k j = zRA 6 39 none none none k j) else if zkd k < 11 then (List.range (zln k)).all fun j => if zfs (zkd k) j = 3 then decide (h k j = zRA 6 39 none none none k j) else true else true
def sZ : zHP := (fun _ _ => 0, fun _ _ => 0, fun _ _ => none)
def sRA : Option (Nat × zHP) := cI 4000 20 9 0 (zent 1 [.ref 0]) [] 1 sZ
def sRB (hp : zHP) : Option (Nat × zHP) := cI 4000 20 10 0 (zent 1 [.ref 127]) [] 128 hp
def sChk : Bool := match sRA with
  | none => false
  | some r => r.1 == 127 && match sRB r.2 with
    | none => false
    | some q => q.1 == 169 && sFb q.2.1 q.2.2.1 && sG q.2.2.2
