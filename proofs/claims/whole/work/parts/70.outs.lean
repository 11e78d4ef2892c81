/-! which wears agree -/
def zmis (tr much al : Int32) : Bool := if tr / 1000 < much then decide (¬ 0 = al) else decide (¬ 1 = al)
/-- what was seen for the day t, and isn't so in V -/
def zBd (ia : Nat → Nat → Int32) (M : Nat) (V : Nat → Nat → Int32) (t k : Nat) : Bool := zQs (ia 111) M k && decide (ia 107 k = nI t) && zmis (V 2 (zct (ia 108 k))) (ia 109 k) (ia 110 k)
/-- whether one of the first n days isn't as it was seen -/
def zFt (ia : Nat → Nat → Int32) (M : Nat) (P : Nat → Nat → Int32) (o : Nat → Int32) (V : Nat → Nat → Int32) (r : Int64) (n : Nat) : Bool := zany (fun j => zany (zBd ia M (zDays P o (j + 1) V r).1 (j + 1)) M) n
section ZP
variable {d pl dr N L T D s w m M : Nat} {cp cw rp : Option Nat} {p ia sa W V : Nat → Nat → Int32} {X : Nat → Int32} {t : Nat → Nat} {o : Nat → Int32} {r q bn x y v : Int32} {la lb : Nat → Nat → Int64} {K : Option Value → zHP → Prop}
theorem zany_e {P Q : Nat → Bool} : ∀ n : Nat, (∀ i, i < n → P i = Q i) → zany P n = zany Q n := by
  intro n
  induction n with
  | zero => intro _; rfl
  | succ n ih =>
    intro h
    unfold zany
    rw [ih (fun i hi => h i (by omega)), h n (by omega)]
theorem zany_m2 {P : Nat → Bool} {a b : Nat} (hab : a ≤ b) (h : ∀ i, a ≤ i → i < b → P i = false) : zany P b = zany P a := by
  have : ∀ q, a + q ≤ b → zany P (a + q) = zany P a := by
    intro q
    induction q with
    | zero => intro _; rfl
    | succ q ih =>
      intro hq
      show (zany P (a + q) || P (a + q)) = _
      rw [ih (by omega), h (a + q) (by omega) (by omega), Bool.or_false]
  have e := this (b - a) (by omega)
  rwa [show a + (b - a) = b by omega] at e
/-- what the notes say -/
def zNt (N m M : Nat) (v : Int32) (t : Nat → Nat) (ia : Nat → Nat → Int32) : Prop :=
  m ≤ 24 ∧ ia 106 0 = nI m ∧ ia 127 57 = nI m ∧ ia 106 2 = v ∧ ia 127 58 = v ∧ (v = -1 ∨ ∃ j, j ≤ m ∧ v = nI j) ∧ zKn m v = M ∧ (∀ k, k < M → ia 166 k = ia 111 k) ∧ (∀ j, j < M → ia 111 j = -1 ∨ ∃ i, i < j ∧ ia 111 j = nI i) ∧ (∀ k, k < M → ia 111 k = -1 → ia 107 k = nI (t k) ∧ ia 162 k = nI (t k) ∧ 0 < t k ∧ t k ≤ 60 ∧ ia 109 k = ia 164 k ∧ ia 110 k = ia 165 k ∧ ∃ q, q < 3 * N ∧ ia 108 k = nI q ∧ ia 163 k = nI q)
theorem zNt_M (h : zNt N m M v t ia) : M ≤ m ∧ m ≤ 24 := by
  have := zKn_le (v := v) h.2.2.2.2.2.1 h.1
  rw [h.2.2.2.2.2.2.1] at this
  exact ⟨this, h.1⟩
theorem zQs_i {X : Nat → Int32} {k : Nat} (h : zQs X M k = true) : k < M ∧ zOd X M M k = false ∧ X k = -1 := by
  unfold zQs at h
  simp at h
  exact ⟨h.1.1, h.1.2, h.2⟩
theorem S_agr {t0 : Nat} {ja : Nat → Nat → Int32} (hN : N ≤ 6) (hn : zNt N m M v t ia) (hs : ∀ c, 106 ≤ c → c ≤ 111 → c ≠ 106 → sa c = ia c) (h0 : sa 106 0 = nI m) (hc : ∀ k, k < 24 → sa 112 k = if zQs (ia 111) M k = true then 1 else 0) (hV : sa 94 = V 2) : zWM d 49 [.ref 106, .int (nI t0), .ref 94] (sa, la, zRA pl dr cp cw rp) K = K (some (.int (if zany (zBd ia M V t0) M = true then 0 else 1))) (sa, la, zRA pl dr cp cw rp) := by
  obtain ⟨hMm, hm⟩ := zNt_M hn
  have hbd : ∀ k, zBd ia M V t0 k = true → zQs (ia 111) M k = true := fun k h => by unfold zBd at h; simp at h; exact h.1.1
  have em : zany (zBd ia M V t0) M = zany (zBd ia M V t0) m := (zany_m2 hMm (fun i h1 h2 => by
    cases e : zBd ia M V t0 i
    · rfl
    · have := (zQs_i (hbd i e)).1; omega)).symm
  rw [em, e49, b49_0]
  have key : ∀ n i, i + n = m → ¬ zany (zBd ia M V t0) i = true → zWP d 49 2 [some (.ref 106), some (.int (nI t0)), some (.ref 94), some (.int (nI i))] [] (sa, la, zRA pl dr cp cw rp) K = K (some (.int (if zany (zBd ia M V t0) m = true then 0 else 1))) (sa, la, zRA pl dr cp cw rp) := by
    intro n
    induction n with
    | zero =>
      intro i hi hz
      rw [b49_2, h0, if_pos (nI_le1 (by omega) (by omega))]
      rw [show i = m by omega] at hz
      rw [if_neg hz]
    | succ n ih =>
      intro i hi hz
      have nxt : zBd ia M V t0 i = false → zWP d 49 2 [some (.ref 106), some (.int (nI t0)), some (.ref 94), some (.int (nI (i + 1)))] [] (sa, la, zRA pl dr cp cw rp) K = K (some (.int (if zany (zBd ia M V t0) m = true then 0 else 1))) (sa, la, zRA pl dr cp cw rp) := fun e => ih (i + 1) (by omega) (by
        show ¬ (zany (zBd ia M V t0) i || zBd ia M V t0 i) = true
        rw [e, Bool.or_false]; exact hz)
      have bad : zBd ia M V t0 i = true → K (some (.int 0)) (sa, la, zRA pl dr cp cw rp) = K (some (.int (if zany (zBd ia M V t0) m = true then 0 else 1))) (sa, la, zRA pl dr cp cw rp) := fun e => by rw [if_pos (zany_mono (i := i) (by omega) e)]
      rw [b49_2, h0, if_neg (nI_nle1 (by omega) (by omega)), zg (by omega) (by omega), zcln (by omega), hc i (by omega), hs 107 (by decide) (by decide) (by decide), hs 108 (by decide) (by decide) (by decide), hs 109 (by decide) (by decide) (by decide), hs 110 (by decide) (by decide) (by decide), ns, hV]
      by_cases c1 : zQs (ia 111) M i = true
      · obtain ⟨q1, q2, q3⟩ := zQs_i c1
        obtain ⟨_, _, _, _, _, _, qq, hq, e8, _⟩ := hn.2.2.2.2.2.2.2.2.2 i q1 q3
        rw [if_pos c1, if_neg (by decide)]
        by_cases c2 : ia 107 i = nI t0
        · rw [if_neg (fun z => z c2), e8, zdrop ⟨rfl, zvi (show qq < 18 by omega) (by decide)⟩, zcln (by omega)]
          have bdv : zBd ia M V t0 i = zmis (V 2 qq) (ia 109 i) (ia 110 i) := by unfold zBd; rw [c1, c2, e8, zct_n (by omega)]; simp
          unfold zmis at bdv
          by_cases c3 : V 2 qq / 1000 < ia 109 i
          · rw [if_pos c3] at bdv ⊢
            by_cases c4 : 0 = ia 110 i
            · rw [if_pos c4]
              exact nxt (by rw [bdv]; simp [← c4])
            · rw [if_neg c4]
              exact bad (by rw [bdv]; exact decide_eq_true c4)
          · rw [if_neg c3] at bdv ⊢
            by_cases c4 : 1 = ia 110 i
            · rw [if_pos c4]
              exact nxt (by rw [bdv]; simp [← c4])
            · rw [if_neg c4]
              exact bad (by rw [bdv]; exact decide_eq_true c4)
        · rw [if_pos c2]
          exact nxt (by unfold zBd; simp [c2])
      · rw [if_neg c1, if_pos rfl]
        exact nxt (by unfold zBd; simp [c1])
  exact key m 0 (by omega) (by unfold zany; decide)
theorem S_so {t0 : Nat} (hN : N ≤ 6) (hn : zNt N m M v t ia) (h7 : sa 127 57 = nI m) (h8 : sa 127 58 = v) (hs : ∀ c, 162 ≤ c → c ≤ 166 → sa c = ia c) (hc : ∀ k, k < M → sa 167 k = if zOd (ia 111) M M k = true then 1 else 0) : zWM (d + 1) 228 [.ref 127, .int (nI t0)] (zPM N 1 V r sa, la, zRA pl dr cp cw rp) K = K (some (.int (if zany (zBd ia M V t0) M = true then 0 else 1))) (zPM N 1 V r sa, la, zRA pl dr cp cw rp) := by
  obtain ⟨hMm, hm⟩ := zNt_M hn
  have o : ∀ c, c < 147 ∨ 158 < c → zPM N 1 V r sa c = sa c := fun c h => zPM_o h
  rw [e228, b228_0]
  have key : ∀ n i, i + n = M → ¬ zany (zBd ia M V t0) i = true → zWP (d + 1) 228 2 [some (.ref 127), some (.int (nI t0)), some (.int (nI i))] [] (zPM N 1 V r sa, la, zRA pl dr cp cw rp) K = K (some (.int (if zany (zBd ia M V t0) M = true then 0 else 1))) (zPM N 1 V r sa, la, zRA pl dr cp cw rp) := by
    intro n
    induction n with
    | zero =>
      intro i hi hz
      rw [b228_2, S_knM hm (by rw [o 127 (by omega)]; exact h7) (by rw [o 127 (by omega)]; exact h8) hn.2.2.2.2.2.1, hn.2.2.2.2.2.2.1, kS, b228_7, if_pos (nI_le1 (by omega) (by omega))]
      rw [show i = M by omega] at hz
      rw [if_neg hz]
    | succ n ih =>
      intro i hi hz
      have nxt : zBd ia M V t0 i = false → zWP (d + 1) 228 2 [some (.ref 127), some (.int (nI t0)), some (.int (nI (i + 1)))] [] (zPM N 1 V r sa, la, zRA pl dr cp cw rp) K = K (some (.int (if zany (zBd ia M V t0) M = true then 0 else 1))) (zPM N 1 V r sa, la, zRA pl dr cp cw rp) := fun e => ih (i + 1) (by omega) (by
        show ¬ (zany (zBd ia M V t0) i || zBd ia M V t0 i) = true
        rw [e, Bool.or_false]; exact hz)
      have bad : zBd ia M V t0 i = true → K (some (.int 0)) (zPM N 1 V r sa, la, zRA pl dr cp cw rp) = K (some (.int (if zany (zBd ia M V t0) M = true then 0 else 1))) (zPM N 1 V r sa, la, zRA pl dr cp cw rp) := fun e => by rw [if_pos (zany_mono (i := i) (by omega) e)]
      rw [b228_2, S_knM hm (by rw [o 127 (by omega)]; exact h7) (by rw [o 127 (by omega)]; exact h8) hn.2.2.2.2.2.1, hn.2.2.2.2.2.2.1, kS, b228_7, if_neg (nI_nle1 (by omega) (by omega)), zg (by omega) (by omega), zcln (by omega), o 167 (by omega), o 166 (by omega), o 162 (by omega), o 163 (by omega), o 164 (by omega), o 165 (by omega), hs 166 (by decide) (by decide), hs 162 (by decide) (by decide), hs 163 (by decide) (by decide), hs 164 (by decide) (by decide), hs 165 (by decide) (by decide), hc i (by omega), ns, hn.2.2.2.2.2.2.2.1 i (by omega)]
      by_cases c1 : zOd (ia 111) M M i = true
      · rw [if_pos c1, if_pos (by decide)]
        exact nxt (by unfold zBd zQs; simp [c1])
      · have c1' : zOd (ia 111) M M i = false := by simpa using c1
        rw [if_neg c1, if_neg (fun z => z rfl)]
        by_cases c0 : ia 111 i = -1
        · rw [if_neg (fun z => z c0)]
          obtain ⟨e7, e62, t1, t2, e9, e10, qq, hq, e8, e63⟩ := hn.2.2.2.2.2.2.2.2.2 i (by omega) c0
          have cq : zQs (ia 111) M i = true := by unfold zQs; rw [c1', c0]; simp; omega
          rw [e62, ← e7, e63, ← e9, ← e10, show (18 : Int32) + nI qq = nI (18 * 1 + qq) by rw [show (18 : Int32) = nI 18 from rfl, nI_add], zg (by omega) (by omega), zcln (by omega), zPM_152, zrB_i (by omega), if_pos hq]
          by_cases c2 : ia 107 i = nI t0
          · rw [if_pos c2]
            have bdv : zBd ia M V t0 i = zmis (V 2 qq) (ia 109 i) (ia 110 i) := by unfold zBd; rw [cq, c2, e8, zct_n (by omega)]; simp
            unfold zmis at bdv
            by_cases c3 : V 2 qq / 1000 < ia 109 i
            · rw [if_pos c3] at bdv ⊢
              by_cases c4 : 0 = ia 110 i
              · rw [if_pos c4]
                exact nxt (by rw [bdv]; simp [← c4])
              · rw [if_neg c4]
                exact bad (by rw [bdv]; exact decide_eq_true c4)
            · rw [if_neg c3] at bdv ⊢
              by_cases c4 : 1 = ia 110 i
              · rw [if_pos c4]
                exact nxt (by rw [bdv]; simp [← c4])
              · rw [if_neg c4]
                exact bad (by rw [bdv]; exact decide_eq_true c4)
          · rw [if_neg c2]
            exact nxt (by unfold zBd; simp [c2])
        · rw [if_pos c0]
          exact nxt (by unfold zBd zQs; simp [c0])
  exact key M 0 (by omega) (by unfold zany; decide)
theorem S_outs (hn : zNt N m M v t ia) (h7 : sa 127 57 = nI m) (h8 : sa 127 58 = v) (hs : ∀ c, 162 ≤ c → c ≤ 166 → sa c = ia c) (hK : ∀ ja : Nat → Nat → Int32, (∀ c k, c ≠ 167 → ja c k = sa c k) → (∀ k, k < M → ja 167 k = if zOd (ia 111) M M k = true then 1 else 0) → zWP (d + 6) 230 123 [some (.ref 127), some (.int (nI (zLm (zQs (ia 111) M) t M))), some (.int 0), some (.int 0)] [] (ja, la, zRA pl dr cp cw rp) K) : zWM (d + 6) 230 [.ref 127] (sa, la, zRA pl dr cp cw rp) K := by
  obtain ⟨hMm, hm⟩ := zNt_M hn
  have nb0 : vp_nar .boolean 0 = 0 := rfl
  have nb1 : vp_nar .boolean 1 = 1 := rfl
  have hX := hn.2.2.2.2.2.2.2.2.1
  have e6 : ∀ k, k < M → ia 166 k = ia 111 k := hn.2.2.2.2.2.2.2.1
  have kn : ∀ (K : Option Value → zHP → Prop) ja, (∀ c k, c ≠ 167 → ja c k = sa c k) → zWM (d + 5) 227 [.ref 127] (ja, la, zRA pl dr cp cw rp) K = K (some (.int (nI M))) (ja, la, zRA pl dr cp cw rp) := fun K ja hj => by
    rw [S_knM hm (by rw [hj _ _ (by decide)]; exact h7) (by rw [hj _ _ (by decide)]; exact h8) hn.2.2.2.2.2.1, hn.2.2.2.2.2.2.1]
  have up : ∀ (n k : Nat) ja, k + n = M → (∀ c k, c ≠ 167 → ja c k = sa c k) → (∀ k, k < M → ja 167 k = if zOd (ia 111) M M k = true then 1 else 0) → zWP (d + 6) 230 75 [some (.ref 127), some (.int (nI (zLm (zQs (ia 111) M) t k))), some (.int (nI k)), none] [] (ja, la, zRA pl dr cp cw rp) K := by
    intro n
    induction n with
    | zero =>
      intro k ja hk h1 h2
      rw [b230_75, kn _ ja h1, kS, b230_80, if_pos (nI_le1 (by omega) (by omega)), show k = M by omega]
      exact hK ja h1 h2
    | succ n ih =>
      intro k ja hk h1 h2
      have ls : zLm (zQs (ia 111) M) t (k + 1) = max (zLm (zQs (ia 111) M) t k) (if zQs (ia 111) M k = true then t k else 0) := rfl
      have ih := ih (k + 1) ja (by omega) h1 h2
      rw [ls] at ih
      have f : ∀ c, 162 ≤ c → c ≤ 166 → ja c = ia c := fun c q1 q2 => by funext j; rw [h1 c j (by omega), hs c q1 q2]
      rw [b230_75, kn _ ja h1, kS, b230_80, if_neg (nI_nle1 (by omega) (by omega)), zg (by omega) (by omega), zcln (by omega), h2 k (by omega), f 166 (by decide) (by decide), f 162 (by decide) (by decide), e6 k (by omega), ns]
      by_cases c1 : zOd (ia 111) M M k = true
      · rw [if_pos c1, if_pos (by decide)]
        have : zQs (ia 111) M k = false := by unfold zQs; simp [c1]
        rw [this] at ih
        simpa using ih
      · have c1' : zOd (ia 111) M M k = false := by simpa using c1
        rw [if_neg c1, if_neg (fun z => z rfl)]
        by_cases c2 : ia 111 k = -1
        · rw [if_neg (fun z => z c2)]
          have cq : zQs (ia 111) M k = true := by unfold zQs; rw [c1', c2]; simp; omega
          obtain ⟨_, e62, t1, t2, _⟩ := hn.2.2.2.2.2.2.2.2.2 k (by omega) c2
          have hl : zLm (zQs (ia 111) M) t k ≤ 60 := (zLm_le k).mpr (fun j hj hq => (hn.2.2.2.2.2.2.2.2.2 j (by omega) (zQs_i hq).2.2).2.2.2.1)
          rw [cq, if_pos rfl] at ih
          rw [e62]
          by_cases cc : zLm (zQs (ia 111) M) t k < t k
          · rw [if_pos (nI_lt cc (by omega))]
            rw [Nat.max_eq_right (by omega)] at ih
            exact ih
          · rw [if_neg (nI_nlt (by omega) (by omega))]
            rw [Nat.max_eq_left (by omega)] at ih
            exact ih
        · rw [if_pos c2]
          have : zQs (ia 111) M k = false := by unfold zQs; simp [c2]
          rw [this] at ih
          simpa using ih
  have down : ∀ (i n : Nat) ja, i + n = M → (∀ c k, c ≠ 167 → ja c k = sa c k) → (∀ k, k < M → ja 167 k = if zOd (ia 111) M n k = true then 1 else 0) → zWP (d + 6) 230 32 [some (.ref 127), some (.int 0), some (.int (nI i - 1)), none] [] (ja, la, zRA pl dr cp cw rp) K := by
    intro i
    induction i with
    | zero =>
      intro n ja hi h1 h2
      rw [b230_32, if_pos (by decide)]
      have en : n = M := by omega
      subst en
      exact up n 0 ja (by omega) h1 h2
    | succ i ih =>
      intro n ja hi h1 h2
      have ei : M - 1 - n = i := by omega
      have ods : ∀ k, zOd (ia 111) M (n + 1) k = (zOd (ia 111) M n k || (!(zOd (ia 111) M n i) && decide (¬ ia 111 i = -1) && decide (k = zct (ia 111 i)))) := by
        intro k
        show (zOd (ia 111) M n k || (!(zOd (ia 111) M n (M - 1 - n)) && decide (¬ ia 111 (M - 1 - n) = -1) && decide (k = zct (ia 111 (M - 1 - n))))) = _
        rw [ei]
      have f : ja 166 i = ia 111 i := by rw [h1 166 i (by decide), hs 166 (by decide) (by decide), e6 i (by omega)]
      rw [np, b230_32, if_neg (nI_pos (by omega)), zg (by omega) (by omega), zcln (by omega), h2 i (by omega), f, nb1, zm1]
      by_cases c1 : zOd (ia 111) M n i = true
      · rw [if_pos c1, if_pos (by decide)]
        exact ih (n + 1) ja (by omega) h1 (fun k hk => by rw [h2 k hk, ods, c1]; simp)
      · have c1' : zOd (ia 111) M n i = false := by simpa using c1
        rw [if_neg c1, if_neg (fun z => z rfl)]
        rcases hX i (by omega) with q | ⟨j, hj, q⟩
        · rw [if_pos q]
          exact ih (n + 1) ja (by omega) h1 (fun k hk => by rw [h2 k hk, ods, q]; simp)
        · have nn : ¬ ia 111 i = -1 := fun z => nI_pos (n := j) (by omega) (by rw [← q, z]; decide)
          rw [if_neg nn, q, zg (by omega) (by omega), zcln (by omega)]
          refine ih (n + 1) _ (by omega) (fun c k hc => by rw [zu_o hc]; exact h1 c k hc) (fun k hk => ?_)
          rw [zu_at, h2 k hk, ods, c1', q, zct_n (by omega)]
          have nj : ¬ nI j = -1 := fun z => nn (by rw [q, z])
          by_cases e : k = j
          · rw [if_pos ⟨rfl, e⟩]; simp [e, nj]
          · rw [if_neg (fun z => e z.2)]; simp [e]
  have res : ∀ (n k : Nat) ja, k + n = M → (∀ c k, c ≠ 167 → ja c k = sa c k) → (∀ j, j < k → ja 167 j = 0) → zWP (d + 6) 230 4 [some (.ref 127), some (.int 0), some (.int (nI k)), none] [] (ja, la, zRA pl dr cp cw rp) K := by
    intro n
    induction n with
    | zero =>
      intro k ja hk h1 h2
      rw [b230_4, kn _ ja h1, kS, b230_9, if_pos (nI_le1 (by omega) (by omega)), kn _ ja h1, kS, b230_29]
      exact down M 0 ja (by omega) h1 (fun j hj => by rw [h2 j (by omega)]; rfl)
    | succ n ih =>
      intro k ja hk h1 h2
      rw [b230_4, kn _ ja h1, kS, b230_9, if_neg (nI_nle1 (by omega) (by omega)), zg (by omega) (by omega), zcln (by omega), nb0, ns]
      refine ih (k + 1) _ (by omega) (fun c j hc => by rw [zu_o hc]; exact h1 c j hc) (fun j hj => ?_)
      rw [zu_at]
      by_cases e : j = k
      · rw [if_pos ⟨rfl, e⟩]
      · rw [if_neg (fun z => e z.2)]; exact h2 j (by omega)
  rw [e230, b230_0]
  exact res M 0 sa (by omega) (fun _ _ _ => rfl) (fun j hj => by omega)
end ZP
