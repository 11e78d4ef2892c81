/-! what a parse keeps -/
def yX (x : Nat) : Prop := x = 3 ∨ x = 7 ∨ yBin x ∨ ∃ y, yBin y ∧ x = y + 10
def yg (x : Nat) : Nat := if x = 1 then 6 else if x = 2 then 5 else if x = 3 then 4 else if x = 5 then 3 else if x = 6 then 2 else 1
/-- how deep the reference's methods call each other at most -/
def ydg (x : Nat) : Nat := if x = 1 ∨ x = 11 then 6 else if x = 2 ∨ x = 12 then 5 else if x = 3 then 4 else if x = 5 ∨ x = 15 then 3 else if x = 6 ∨ x = 16 then 2 else 1
theorem yX_sub {y : Nat} (h : yBin y) : yX (ysub y) := by
  rcases h with h | h | h | h <;> subst h
  · exact Or.inr (Or.inr (Or.inl (Or.inr (Or.inl rfl))))
  · exact Or.inl rfl
  · exact Or.inr (Or.inr (Or.inl (Or.inr (Or.inr (Or.inr rfl)))))
  · exact Or.inr (Or.inl rfl)
theorem yX_lp {y : Nat} (h : yBin y) : yX (y + 10) := Or.inr (Or.inr (Or.inr ⟨y, h, rfl⟩))
theorem yX_3 : yX 3 := Or.inl rfl
theorem yX_5 : yX 5 := Or.inr (Or.inr (Or.inl (Or.inr (Or.inr (Or.inl rfl)))))
theorem yX_1 : yX 1 := Or.inr (Or.inr (Or.inl (Or.inl rfl)))
theorem yX_7 : yX 7 := Or.inr (Or.inl rfl)
theorem yg_sub {y : Nat} (h : yBin y) : yg (ysub y) < yg y ∧ yg (y + 10) = 1 ∧ 1 ≤ yg y ∧ yg (ysub y) ≤ 5 ∧ ysub y < 10 ∧ y < 10 := by
  rcases h with h | h | h | h <;> subst h <;> decide
def yGd (n x i c : Nat) (l : List (Nat × Nat)) (R : yR) : Prop := (∀ e, R = .error e → e.1 ≠ 0 ∧ e.1 < 10 ∧ e.2 ≤ n) ∧ (∀ r, R = .ok r → r.1 ≤ n ∧ i ≤ r.1 ∧ (x < 10 → i < r.1) ∧ c ≤ r.2.1 ∧ r.2.1 ≤ 64 ∧ r.2.2.length + c = l.length + r.2.1)
theorem yGd_e {n x i c : Nat} {l : List (Nat × Nat)} {e : Nat × Nat} (h : e.1 ≠ 0 ∧ e.1 < 10 ∧ e.2 ≤ n) : yGd n x i c l (.error e) := ⟨fun e' he => by cases he; exact h, fun r hr => by cases hr⟩
theorem yGd_o {n x i c : Nat} {l : List (Nat × Nat)} {r : Nat × Nat × List (Nat × Nat)} (h : r.1 ≤ n ∧ i ≤ r.1 ∧ (x < 10 → i < r.1) ∧ c ≤ r.2.1 ∧ r.2.1 ≤ 64 ∧ r.2.2.length + c = l.length + r.2.1) : yGd n x i c l (.ok r) := ⟨fun e he => (by cases he), fun r' hr => by cases hr; exact h⟩
theorem yGd_2 {n x i c t : Nat} {l : List (Nat × Nat)} (h : t ≤ n) : yGd n x i c l (.error (2, t)) := yGd_e ⟨by show 2 ≠ 0; decide, by show 2 < 10; decide, h⟩
theorem yGd_1 {n x i c t : Nat} {l : List (Nat × Nat)} (h : t ≤ n) : yGd n x i c l (.error (1, t)) := yGd_e ⟨by show 1 ≠ 0; decide, by show 1 < 10; decide, h⟩
section YP
variable {b : Nat → Nat} {n : Nat}
theorem yPx_A (hb : ∀ j, j < n → b j < 256) : ∀ (f x o i c : Nat) (l : List (Nat × Nat)), yX x → i ≤ n → 10 * (n - i) + yg x ≤ f → c ≤ 64 → yGd n x i c l (yPx b n f x o i c l) := by
  intro f
  induction f with
  | zero =>
    intro x o i c l hx hi hf hc
    have : 1 ≤ yg x := by unfold yg; split; omega; split; omega; split; omega; split; omega; split <;> omega
    omega
  | succ f ih =>
    intro x o i c l hx hi hf hc
    obtain ⟨t1, t2, t3, _⟩ := yt_f hb hi
    rcases hx with h | h | h | ⟨y, h, h2⟩
    · subst h
      have hf : 10 * (n - i) + 4 ≤ f + 1 := hf
      by_cases k : zkN b n i = 32
      · by_cases c6 : c = 64
        · rw [yN_64 k c6]; exact yGd_2 t1
        have t3 := t3 (by omega)
        have g := ih 3 o (zTn b n i) (c + 1) l yX_3 t2 (by show 10 * (n - zTn b n i) + 4 ≤ f; omega) (by omega)
        cases hs : yPx b n f 3 o (zTn b n i) (c + 1) l with
        | error e => rw [yN_er k c6 hs]; exact yGd_e (g.1 e hs)
        | ok r =>
          have g := g.2 r hs
          rw [yN_ok k c6 hs]
          refine yGd_o ⟨g.1, by have := g.2.1; show i ≤ r.1; omega, fun _ => by have := g.2.1; show i < r.1; omega, by have := g.2.2.2.1; show c ≤ r.2.1; omega, g.2.2.2.2.1, ?_⟩
          have := g.2.2.2.2.2
          show (r.2.2 ++ [(32, 0)]).length + c = l.length + r.2.1
          rw [List.length_append]
          show r.2.2.length + 1 + c = l.length + r.2.1
          omega
      · have g := ih 5 o i c l yX_5 hi (by show 10 * (n - i) + 3 ≤ f; omega) hc
        cases hs : yPx b n f 5 o i c l with
        | error e => rw [yC_er k hs]; exact yGd_e (g.1 e hs)
        | ok r =>
          have g := g.2 r hs
          have g3 := g.2.2.1 (by decide)
          by_cases k4 : yrk (zkN b n r.1) = 4
          · obtain ⟨s1, s2, s3, _⟩ := yt_f hb g.1
            have s3 := s3 (fun z => by rw [z] at k4; exact absurd k4 (by decide))
            by_cases c6 : r.2.1 = 64
            · rw [yC_64 k hs k4 c6]; exact yGd_2 s1
            have w := g.2.2.2.2.1
            have g2 := ih 5 o (zTn b n r.1) (r.2.1 + 1) r.2.2 yX_5 s2 (by show 10 * (n - zTn b n r.1) + 3 ≤ f; omega) (by omega)
            cases h2 : yPx b n f 5 o (zTn b n r.1) (r.2.1 + 1) r.2.2 with
            | error e => rw [yC_e2 k hs k4 c6 h2]; exact yGd_e (g2.1 e h2)
            | ok q =>
              have g2 := g2.2 q h2
              rw [yC_ok k hs k4 c6 h2]
              have a1 := g2.2.1
              have a2 := g2.2.2.2.1
              have a3 := g2.2.2.2.2.2
              have a4 := g.2.2.2.1
              have a5 := g.2.2.2.2.2
              refine yGd_o ⟨g2.1, by show i ≤ q.1; omega, fun _ => by show i < q.1; omega, by show c ≤ q.2.1; omega, g2.2.2.2.2.1, ?_⟩
              show (q.2.2 ++ [(zkN b n r.1, 0)]).length + c = l.length + q.2.1
              rw [List.length_append]
              show q.2.2.length + 1 + c = l.length + q.2.1
              omega
          · rw [yC_no k hs k4]; exact yGd_o ⟨g.1, g.2.1, fun _ => g3, g.2.2.2⟩
    · subst h
      have hf : 10 * (n - i) + 1 ≤ f + 1 := hf
      by_cases k5 : zkN b n i = 5
      · have t3 := t3 (by omega)
        by_cases o8 : o = 8
        · rw [yP_o8 k5 o8]; exact yGd_2 t1
        have g := ih 1 (o + 1) (zTn b n i) c l yX_1 t2 (by show 10 * (n - zTn b n i) + 6 ≤ f; omega) hc
        cases hs : yPx b n f 1 (o + 1) (zTn b n i) c l with
        | error e => rw [yP_oe k5 o8 hs]; exact yGd_e (g.1 e hs)
        | ok r =>
          have g := g.2 r hs
          obtain ⟨s1, s2, s3, _⟩ := yt_f hb g.1
          by_cases k6 : zkN b n r.1 = 6
          · have s3 := s3 (by omega)
            have a1 := g.2.1
            rw [yP_ok k5 o8 hs k6]; exact yGd_o ⟨s2, by show i ≤ zTn b n r.1; omega, fun _ => by show i < zTn b n r.1; omega, g.2.2.2⟩
          · rw [yP_on k5 o8 hs k6]; exact yGd_1 s1
      by_cases k2 : zkN b n i = 2
      · have t3 := t3 (by omega)
        by_cases hv : 9999 < zTv b n i
        · rw [yP_n2 k2 hv]; exact yGd_2 t1
        by_cases c6 : c = 64
        · rw [yP_n6 k2 hv c6]; exact yGd_2 t1
        rw [yP_nk k2 hv c6]
        refine yGd_o ⟨t2, by show i ≤ zTn b n i; omega, fun _ => t3, by show c ≤ c + 1; omega, by show c + 1 ≤ 64; omega, ?_⟩
        show (l ++ [(2, zTv b n i)]).length + c = l.length + (c + 1)
        rw [List.length_append]
        show l.length + 1 + c = _
        omega
      by_cases k3 : 33 ≤ zkN b n i
      · have t3 := t3 (by omega)
        by_cases c6 : c = 64
        · rw [yP_m6 k3 c6]; exact yGd_2 t1
        rw [yP_mk k3 c6]
        refine yGd_o ⟨t2, by show i ≤ zTn b n i; omega, fun _ => t3, by show c ≤ c + 1; omega, by show c + 1 ≤ 64; omega, ?_⟩
        show (l ++ [(zkN b n i, zTv b n i)]).length + c = l.length + (c + 1)
        rw [List.length_append]
        show l.length + 1 + c = _
        omega
      rw [yP_1 k5 k2 k3]; exact yGd_1 t1
    · obtain ⟨g1, g2, g3, g4, g5, g6⟩ := yg_sub h
      have g := ih (ysub x) o i c l (yX_sub h) hi (by omega) hc
      cases hs : yPx b n f (ysub x) o i c l with
      | error e => rw [yB_er h hs]; exact yGd_e (g.1 e hs)
      | ok r =>
        have g := g.2 r hs
        have a1 := g.2.2.1 g5
        have a2 := g.2.2.2.1
        have a3 := g.2.2.2.2.2
        rw [yB_ok h hs]
        have q := ih (x + 10) o r.1 r.2.1 r.2.2 (yX_lp h) g.1 (by omega) g.2.2.2.2.1
        refine ⟨q.1, fun r' hr => ?_⟩
        have q := q.2 r' hr
        exact ⟨q.1, by omega, fun _ => by omega, by omega, q.2.2.2.2.1, by omega⟩
    · subst h2
      obtain ⟨g1, g2, g3, g4, g5, g6⟩ := yg_sub h
      by_cases k : yrk (zkN b n i) = y
      · have t3 := t3 (fun z => by rw [z] at k; have : y = 0 := k.symm; subst this; exact absurd h (by unfold yBin; omega))
        by_cases c6 : c = 64
        · rw [yL_64 h k c6]; exact yGd_2 t1
        have g := ih (ysub y) o (zTn b n i) (c + 1) l (yX_sub h) t2 (by omega) (by omega)
        cases hs : yPx b n f (ysub y) o (zTn b n i) (c + 1) l with
        | error e => rw [yL_er h k c6 hs]; exact yGd_e (g.1 e hs)
        | ok r =>
          have g := g.2 r hs
          have a1 := g.2.2.1 g5
          have a2 := g.2.2.2.1
          have a3 := g.2.2.2.2.2
          rw [yL_ok h k c6 hs]
          have q := ih (y + 10) o r.1 r.2.1 (r.2.2 ++ [(zkN b n i, 0)]) (yX_lp h) g.1 (by omega) g.2.2.2.2.1
          refine ⟨q.1, fun r' hr => ?_⟩
          have q := q.2 r' hr
          have q6 := q.2.2.2.2.2
          rw [List.length_append] at q6
          have q6 : r'.2.2.length + r.2.1 = r.2.2.length + 1 + r'.2.1 := q6
          exact ⟨q.1, by omega, fun z => by omega, by omega, q.2.2.2.2.1, by omega⟩
      · rw [yL_no h k]; exact yGd_o ⟨hi, Nat.le_refl _, fun z => by omega, Nat.le_refl _, hc, rfl⟩
/-- knots of a row: never more values wanted than are held, one is left -/
def yck : List (Nat × Nat) → Nat → Prop
  | [], m => m = 1
  | k :: r, m => if k.1 = 2 ∨ 33 ≤ k.1 then yck r (m + 1) else if k.1 = 32 then 0 < m ∧ yck r m else 1 < m ∧ yck r (m - 1)
def yokk (k : Nat × Nat) : Prop := (k.1 = 2 ∧ k.2 ≤ 9999) ∨ (7 ≤ k.1 ∧ k.1 ≤ 16) ∨ (30 ≤ k.1 ∧ k.1 ≤ 32) ∨ (33 ≤ k.1 ∧ k.1 ≤ 39)
def yGe (x : Nat) (l l' : List (Nat × Nat)) : Prop := ∃ e, l' = l ++ e ∧ (∀ k ∈ e, yokk k) ∧ (∀ rest m, (x < 10 → yck rest (m + 1) → yck (e ++ rest) m) ∧ (10 ≤ x → 0 < m → yck rest m → yck (e ++ rest) m))
theorem yck_n {rest : List (Nat × Nat)} {m : Nat} (h : yck rest m) (hm : 0 < m) : yck ((32, 0) :: rest) m := by
  show (if (32 = 2 ∨ 33 ≤ 32) then yck rest (m + 1) else if 32 = 32 then 0 < m ∧ yck rest m else 1 < m ∧ yck rest (m - 1))
  rw [if_neg (by omega), if_pos rfl]
  exact ⟨hm, h⟩
theorem yck_b {rest : List (Nat × Nat)} {m k : Nat} (hk : 3 < yrk k ∨ yrk k = 1 ∨ yrk k = 2) (h : yck rest m) (hm : 0 < m) : yck ((k, 0) :: rest) (m + 1) := by
  have hk : (7 ≤ k ∧ k ≤ 16) ∨ k = 30 ∨ k = 31 := by
    revert hk
    unfold yrk
    by_cases c1 : k = 30
    · omega
    by_cases c2 : k = 31
    · omega
    by_cases c3 : k = 32
    · subst c3; intro h; exact absurd h (by decide)
    by_cases c4 : 7 ≤ k ∧ k ≤ 16
    · omega
    rw [if_neg c1, if_neg c2, if_neg c3, if_neg (by omega), if_neg (by omega), if_neg (by omega)]
    omega
  show (if (k = 2 ∨ 33 ≤ k) then yck rest (m + 1 + 1) else if k = 32 then 0 < m + 1 ∧ yck rest (m + 1) else 1 < m + 1 ∧ yck rest (m + 1 - 1))
  rw [if_neg (by omega), if_neg (by omega)]
  exact ⟨by omega, h⟩
theorem yrk_b {k y : Nat} (h : yrk k = y) (hy : y = 4 ∨ yBin y) : (3 < yrk k ∨ yrk k = 1 ∨ yrk k = 2) ∧ yokk (k, 0) := by
  refine ⟨by unfold yBin at hy; omega, ?_⟩
  by_cases c1 : k = 30
  · subst c1; exact Or.inr (Or.inr (Or.inl ⟨by decide, by decide⟩))
  by_cases c2 : k = 31
  · subst c2; exact Or.inr (Or.inr (Or.inl ⟨by decide, by decide⟩))
  by_cases c4 : 7 ≤ k ∧ k ≤ 16
  · exact Or.inr (Or.inl c4)
  by_cases c3 : k = 32
  · subst c3; have : yrk 32 = 3 := rfl; unfold yBin at hy; omega
  unfold yrk at h
  rw [if_neg c1, if_neg c2, if_neg c3, if_neg (by omega), if_neg (by omega), if_neg (by omega)] at h
  unfold yBin at hy
  omega
theorem yPx_B (hb : ∀ j, j < n → b j < 256) : ∀ (f x o i c : Nat) (l : List (Nat × Nat)) (r : Nat × Nat × List (Nat × Nat)), yX x → i ≤ n → 10 * (n - i) + yg x ≤ f → c ≤ 64 → yPx b n f x o i c l = .ok r → yGe x l r.2.2 := by
  intro f
  induction f with
  | zero => intro x o i c l r _ _ _ _ h; cases h
  | succ f ih =>
    intro x o i c l r hx hi hf hc hR
    obtain ⟨t1, t2, t3, t4, _⟩ := yt_f hb hi
    rcases hx with h | h | h | ⟨y, h, h2⟩
    · subst h
      have hf : 10 * (n - i) + 4 ≤ f + 1 := hf
      by_cases k : zkN b n i = 32
      · by_cases c6 : c = 64
        · rw [yN_64 k c6] at hR; cases hR
        have t3 := t3 (by omega)
        cases hs : yPx b n f 3 o (zTn b n i) (c + 1) l with
        | error e => rw [yN_er k c6 hs] at hR; cases hR
        | ok q =>
          obtain ⟨e, e1, e2, e3⟩ := ih 3 o (zTn b n i) (c + 1) l q yX_3 t2 (by show 10 * (n - zTn b n i) + 4 ≤ f; omega) (by omega) hs
          rw [yN_ok k c6 hs] at hR
          cases hR
          refine ⟨e ++ [(32, 0)], by show q.2.2 ++ _ = _; rw [e1, List.append_assoc], fun k hk => ?_, fun rest m => ⟨fun _ hr => ?_, fun z => by omega⟩⟩
          · rcases List.mem_append.mp hk with hk | hk
            · exact e2 k hk
            · rw [List.mem_singleton.mp hk]; exact Or.inr (Or.inr (Or.inl ⟨by decide, by decide⟩))
          · rw [List.append_assoc]
            exact (e3 _ m).1 (by decide) (yck_n hr (by omega))
      · cases hs : yPx b n f 5 o i c l with
        | error e => rw [yC_er k hs] at hR; cases hR
        | ok q =>
          have g := (yPx_A hb f 5 o i c l yX_5 hi (by show 10 * (n - i) + 3 ≤ f; omega) hc).2 q hs
          have ih1 := ih 5 o i c l q yX_5 hi (by show 10 * (n - i) + 3 ≤ f; omega) hc hs
          by_cases k4 : yrk (zkN b n q.1) = 4
          · by_cases c6 : q.2.1 = 64
            · rw [yC_64 k hs k4 c6] at hR; cases hR
            obtain ⟨s1, s2, s3, _⟩ := yt_f hb g.1
            have s3 := s3 (fun z => by rw [z] at k4; exact absurd k4 (by decide))
            have g3 := g.2.1
            have w := g.2.2.2.2.1
            cases h2 : yPx b n f 5 o (zTn b n q.1) (q.2.1 + 1) q.2.2 with
            | error e => rw [yC_e2 k hs k4 c6 h2] at hR; cases hR
            | ok u =>
              obtain ⟨e, e1, e2, e3⟩ := ih1
              obtain ⟨e', f1, f2, f3⟩ := ih 5 o (zTn b n q.1) (q.2.1 + 1) q.2.2 u yX_5 s2 (by show 10 * (n - zTn b n q.1) + 3 ≤ f; omega) (by omega) h2
              rw [yC_ok k hs k4 c6 h2] at hR
              cases hR
              obtain ⟨z1, z2⟩ := yrk_b k4 (Or.inl rfl)
              refine ⟨e ++ (e' ++ [(zkN b n q.1, 0)]), by show u.2.2 ++ _ = _; rw [f1, e1, List.append_assoc, List.append_assoc], fun k hk => ?_, fun rest m => ⟨fun _ hr => ?_, fun z => by omega⟩⟩
              · rcases List.mem_append.mp hk with hk | hk
                · exact e2 k hk
                · rcases List.mem_append.mp hk with hk | hk
                  · exact f2 k hk
                  · rw [List.mem_singleton.mp hk]; exact z2
              · rw [List.append_assoc, List.append_assoc]
                exact (e3 _ m).1 (by decide) ((f3 _ (m + 1)).1 (by decide) (yck_b z1 hr (by omega)))
          · rw [yC_no k hs k4] at hR
            cases hR
            obtain ⟨e, e1, e2, e3⟩ := ih1
            exact ⟨e, e1, e2, fun rest m => ⟨fun _ hr => (e3 rest m).1 (by decide) hr, fun z => by omega⟩⟩
    · subst h
      have hf : 10 * (n - i) + 1 ≤ f + 1 := hf
      by_cases k5 : zkN b n i = 5
      · have t3 := t3 (by omega)
        by_cases o8 : o = 8
        · rw [yP_o8 k5 o8] at hR; cases hR
        cases hs : yPx b n f 1 (o + 1) (zTn b n i) c l with
        | error e => rw [yP_oe k5 o8 hs] at hR; cases hR
        | ok q =>
          obtain ⟨e, e1, e2, e3⟩ := ih 1 (o + 1) (zTn b n i) c l q yX_1 t2 (by show 10 * (n - zTn b n i) + 6 ≤ f; omega) hc hs
          by_cases k6 : zkN b n q.1 = 6
          · rw [yP_ok k5 o8 hs k6] at hR
            cases hR
            exact ⟨e, e1, e2, fun rest m => ⟨fun _ hr => (e3 rest m).1 (by decide) hr, fun z => by omega⟩⟩
          · rw [yP_on k5 o8 hs k6] at hR; cases hR
      by_cases k2 : zkN b n i = 2
      · by_cases hv : 9999 < zTv b n i
        · rw [yP_n2 k2 hv] at hR; cases hR
        by_cases c6 : c = 64
        · rw [yP_n6 k2 hv c6] at hR; cases hR
        rw [yP_nk k2 hv c6] at hR
        cases hR
        refine ⟨[(2, zTv b n i)], rfl, fun k hk => ?_, fun rest m => ⟨fun _ hr => ?_, fun z => by omega⟩⟩
        · rw [List.mem_singleton.mp hk]; exact Or.inl ⟨rfl, by show zTv b n i ≤ 9999; omega⟩
        · show (if (2 = 2 ∨ 33 ≤ 2) then yck rest (m + 1) else _)
          rw [if_pos (Or.inl rfl)]; exact hr
      by_cases k3 : 33 ≤ zkN b n i
      · by_cases c6 : c = 64
        · rw [yP_m6 k3 c6] at hR; cases hR
        rw [yP_mk k3 c6] at hR
        cases hR
        refine ⟨[(zkN b n i, zTv b n i)], rfl, fun k hk => ?_, fun rest m => ⟨fun _ hr => ?_, fun z => by omega⟩⟩
        · rw [List.mem_singleton.mp hk]; exact Or.inr (Or.inr (Or.inr ⟨k3, by show zkN b n i ≤ 39; omega⟩))
        · show (if (zkN b n i = 2 ∨ 33 ≤ zkN b n i) then yck rest (m + 1) else _)
          rw [if_pos (Or.inr k3)]; exact hr
      rw [yP_1 k5 k2 k3] at hR; cases hR
    · obtain ⟨g1, g2, g3, g4, g5, g6⟩ := yg_sub h
      cases hs : yPx b n f (ysub x) o i c l with
      | error e => rw [yB_er h hs] at hR; cases hR
      | ok q =>
        have g := (yPx_A hb f (ysub x) o i c l (yX_sub h) hi (by omega) hc).2 q hs
        have a1 := g.2.2.1 g5
        rw [yB_ok h hs] at hR
        obtain ⟨e, e1, e2, e3⟩ := ih (ysub x) o i c l q (yX_sub h) hi (by omega) hc hs
        obtain ⟨e', f1, f2, f3⟩ := ih (x + 10) o q.1 q.2.1 q.2.2 r (yX_lp h) g.1 (by omega) g.2.2.2.2.1 hR
        refine ⟨e ++ e', by rw [f1, e1, List.append_assoc], fun k hk => ?_, fun rest m => ⟨fun _ hr => ?_, fun z => by omega⟩⟩
        · rcases List.mem_append.mp hk with hk | hk
          · exact e2 k hk
          · exact f2 k hk
        · rw [List.append_assoc]
          exact (e3 _ m).1 g5 ((f3 rest (m + 1)).2 (by omega) (by omega) hr)
    · subst h2
      obtain ⟨g1, g2, g3, g4, g5, g6⟩ := yg_sub h
      by_cases k : yrk (zkN b n i) = y
      · have t3 := t3 (fun z => by rw [z] at k; have : y = 0 := k.symm; subst this; exact absurd h (by unfold yBin; omega))
        by_cases c6 : c = 64
        · rw [yL_64 h k c6] at hR; cases hR
        cases hs : yPx b n f (ysub y) o (zTn b n i) (c + 1) l with
        | error e => rw [yL_er h k c6 hs] at hR; cases hR
        | ok q =>
          have g := (yPx_A hb f (ysub y) o (zTn b n i) (c + 1) l (yX_sub h) t2 (by omega) (by omega)).2 q hs
          have a1 := g.2.2.1 g5
          rw [yL_ok h k c6 hs] at hR
          obtain ⟨e, e1, e2, e3⟩ := ih (ysub y) o (zTn b n i) (c + 1) l q (yX_sub h) t2 (by omega) (by omega) hs
          obtain ⟨e', f1, f2, f3⟩ := ih (y + 10) o q.1 q.2.1 (q.2.2 ++ [(zkN b n i, 0)]) r (yX_lp h) g.1 (by omega) g.2.2.2.2.1 hR
          obtain ⟨z1, z2⟩ := yrk_b k (Or.inr h)
          refine ⟨e ++ ([(zkN b n i, 0)] ++ e'), by rw [f1, e1, List.append_assoc, List.append_assoc], fun k hk => ?_, fun rest m => ⟨fun z => by omega, fun _ hm hr => ?_⟩⟩
          · rcases List.mem_append.mp hk with hk | hk
            · exact e2 k hk
            · rcases List.mem_append.mp hk with hk | hk
              · rw [List.mem_singleton.mp hk]; exact z2
              · exact f2 k hk
          · rw [List.append_assoc]
            refine (e3 _ m).1 g5 ?_
            rw [List.append_assoc]
            exact yck_b z1 ((f3 rest m).2 (by omega) hm hr) hm
      · rw [yL_no h k] at hR
        cases hR
        exact ⟨[], (List.append_nil _).symm, fun k hk => absurd hk List.not_mem_nil, fun rest m => ⟨fun z => by omega, fun _ _ hr => hr⟩⟩
end YP
