/-! ask -/
theorem zDays_add {P V : Nat → Nat → Int32} {o : Nat → Int32} {r : Int64} {a : Nat} : ∀ b : Nat, zDays P o (a + b) V r = zDays P o b (zDays P o a V r).1 (zDays P o a V r).2 := by
  intro b
  induction b with
  | zero => rfl
  | succ b ih =>
    show zDay P o (zDays P o (a + b) V r).1 (zDays P o (a + b) V r).2 = zDay P o (zDays P o b (zDays P o a V r).1 (zDays P o a V r).2).1 (zDays P o b (zDays P o a V r).1 (zDays P o a V r).2).2
    rw [ih]
def zB1 (B : Nat → Bool) (k : Nat) : Int32 := if B k = true then 1 else 0
theorem zbS_m {B : Nat → Bool} : ∀ n : Nat, n ≤ 12 → zit (zbS B) n (0 : Int32) = nI (zbm (zB1 B) n) := by
  intro n
  induction n with
  | zero => intro _; rfl
  | succ n ih =>
    intro hn
    show zbS B n (zit (zbS B) n 0) = nI (if zB1 B n = 0 then zbm (zB1 B) n else zbm (zB1 B) n ||| 2 ^ n)
    rw [ih (by omega)]
    unfold zbS
    by_cases e : B n = true
    · have e1 : ¬ zB1 B n = 0 := by unfold zB1; rw [if_pos e]; decide
      rw [if_pos e, if_neg e1, zsh1 (by omega), nI_or]
    · have e1 : zB1 B n = 0 := by unfold zB1; rw [if_neg e]
      rw [if_neg e, if_pos e1]
theorem zB1_t {B : Nat → Bool} {k : Nat} (hk : k < 11) : (zbm (zB1 B) 11).testBit k = B k := by
  rw [zbm_t]
  unfold zB1
  cases e : B k
  · simp
  · simp [hk]
section ZP
variable {d pl dr : Nat} {cp cw rp : Option Nat} {ia : Nat → Nat → Int32} {la : Nat → Nat → Int64} {K : Option Value → zHP → Prop}
theorem S_bc {b : Nat} (hb : b < 2048) : zWM d 240 [.int (nI b)] (ia, la, zRA pl dr cp cw rp) K = K (some (.int (nI (zcnt (fun k => b.testBit k) 11)))) (ia, la, zRA pl dr cp cw rp) := by
  rw [e240, b240_0]
  congr 3
  revert b
  decide +kernel
/-- how many are left at worst -/
def zWo (B : Nat → Bool) (sl : Nat → Int32) (much : Nat) : Nat := max (zcnt (fun k => B k && decide (¬ sl k < nI much)) 11) (zcnt B 11 - zcnt (fun k => B k && decide (¬ sl k < nI much)) 11)
theorem zcnt_sub {B Q : Nat → Bool} : ∀ n : Nat, zcnt (fun k => B k && Q k) n ≤ zcnt B n := by
  intro n
  induction n with
  | zero => exact Nat.le_refl _
  | succ n ih =>
    show (if (B n && Q n) = true then zcnt (fun k => B k && Q k) n + 1 else zcnt (fun k => B k && Q k) n) ≤ (if B n = true then zcnt B n + 1 else zcnt B n)
    cases B n <;> cases Q n <;> simp <;> omega
theorem zmaxI {a b : Nat} (ha : a ≤ 11) (hb : b ≤ 11) (hab : a ≤ b) : (if nI a < nI b - nI a then nI b - nI a else nI a) = nI (max a (b - a)) := by
  rw [pk_sub hab]
  by_cases c : a < b - a
  · rw [if_pos (nI_lt c (by omega)), Nat.max_eq_right (by omega)]
  · rw [if_neg (nI_nlt (by omega) (by omega)), Nat.max_eq_left (by omega)]
theorem S_worst {B : Nat → Bool} {sl : Nat → Int32} {much : Nat} (hs : ∀ k, k < 11 → B k = true → ia 126 k = sl k) : zWM (d + 6) 123 [.ref 0, .int (nI (zbm (zB1 B) 11)), .int (nI much)] (ia, la, zRA pl dr cp cw rp) K = K (some (.int (nI (zWo B sl much)))) (ia, la, zRA pl dr cp cw rp) := by
  have hb : zbm (zB1 B) 11 < 2048 := zbm_lt _ 11
  have hc := zcnt_le B 11
  have hc2 := zcnt_sub (B := B) (Q := fun k => decide (¬ sl k < nI much)) 11
  rw [e123, b123_0]
  refine Eq.trans (zlpE (fun i => zWP (d + 6) 123 5 [some (.ref 0), some (.int (nI (zbm (zB1 B) 11))), some (.int (nI much)), some (.int (nI (zcnt (fun k => B k && decide (¬ sl k < nI much)) i))), some (.int (nI i))] [] (ia, la, zRA pl dr cp cw rp) K) 11 ?_) ?_
  · intro i hi
    rw [b123_5, if_neg (show ¬ (11 : Int32) ≤ nI i from nI_nle1 (a := 11) (by omega) (by omega)), zbit_at (by omega) (by omega), zB1_t hi, zg (by omega) (by omega), zcln (by omega), ns, ns, show zcnt (fun k => B k && decide (¬ sl k < nI much)) (i + 1) = (if (B i && decide (¬ sl i < nI much)) = true then zcnt (fun k => B k && decide (¬ sl k < nI much)) i + 1 else zcnt (fun k => B k && decide (¬ sl k < nI much)) i) from rfl]
    by_cases e : B i = true
    · rw [if_pos e, if_neg (by decide), hs i hi e, e, Bool.true_and]
      by_cases c : sl i < nI much
      · rw [if_pos c, if_neg (znd (fun z => z c))]
      · rw [if_neg c, if_pos (decide_eq_true c)]
    · have e' : B i = false := by simpa using e
      rw [if_neg e, if_pos rfl, e']
      simp
  · rw [b123_5, if_pos (by decide), S_bc hb, kS, b123_46, zcnt_ext (Q := B) 11 (fun k hk => zB1_t hk), zmaxI (by omega) hc hc2]
    rfl
end ZP
def zBst (B : Nat → Bool) (sl : Nat → Int32) (i b : Nat) : Nat := if zWo B sl b ≤ zWo B sl (i + 2) then b else i + 2
theorem zBst_le {B : Nat → Bool} {sl : Nat → Int32} : ∀ n : Nat, zit (zBst B sl) n 1 ≤ n + 1 := by
  intro n
  induction n with
  | zero => exact Nat.le_refl _
  | succ n ih =>
    show zBst B sl n (zit (zBst B sl) n 1) ≤ n + 2
    generalize zit (zBst B sl) n 1 = b at ih
    unfold zBst
    split <;> omega
theorem zWo_le {B : Nat → Bool} {sl : Nat → Int32} {b : Nat} : zWo B sl b ≤ 11 := by
  unfold zWo
  have h1 := zcnt_le (fun k => B k && decide (¬ sl k < nI b)) 11
  have h2 := zcnt_le B 11
  omega
/-- as zSp, and the slant behind sixty days -/
def zSa (p ia : Nat → Nat → Int32) (N M last h k : Nat) (b : Bool) (sl : Int32) : Prop := ∃ (P : Nat → Nat → Int32) (o : Nat → Int32) (V : Nat → Nat → Int32), (∀ g, g < 33 → P g = p g) ∧ zGd k o ∧ b = !(zFt ia M P o (zBeg P N V) (P 28 2).toInt64 last) ∧ (b = true → sl = (zDays P o 60 (zBeg P N V) (P 28 2).toInt64).1 2 (3 * h) / 1000)
theorem T_ask {d pl dr : Nat} {cp cw rp : Option Nat} {ia : Nat → Nat → Int32} {la : Nat → Nat → Int64} {Kc : Option Value → zHP → Prop} {Km : Option Value → Option Value → zHP → Prop} {x1 x2 : Int32} (hI : zInv pl dr ia la) (hc : ∀ v hp, zWM (d + 400) 232 [.ref 127, .int x1, .int x2] hp (Km v) → Kc v hp) (hm : zEndK ia Km) : zWM (d + 400) 122 [.ref 0, .int x1, .int x2] (ia, la, zRA pl dr cp cw rp) Kc := by
  have fin := zfin hI hm
  obtain ⟨i1, i2, i3, i4, i5, i6, i7, p, N, L, T, D, W, r, hC, hM, hDe, hNo⟩ := hI
  have hN6 : N ≤ 6 := hC.2.1.2.1
  have hT12 : T ≤ 12 := hC.2.1.2.2.2.2.2.1
  have hR2 : zPR p (zu ia 127 0 0) N L T := zPR_i (fun c h1 h2 => zu_o (by omega)) hC.2.2.1
  have fin2 : ∀ v v2 : Option Value, v2 = v → Km v v2 (zu ia 127 0 0, la, zRA pl dr cp cw rp) := fun v v2 e => fin v v2 _ _ _ _ _ (zFr_0 zFr_r) e
  have pll := zIsP_lt i1
  rw [e122, b122_0, S_isP i1 hC, kS, b122_5]
  rcases zpers x1 (N := N) (by omega) with h1 | ⟨h, hh, rfl, hn1⟩
  · rw [if_pos h1, if_pos rfl]
    refine hc _ _ ?_
    rw [e232, b232_0, S_isM hR2, kS, b232_10, if_pos h1, if_pos rfl]
    exact fin2 _ _ rfl
  rw [if_neg hn1, if_neg (by decide)]
  have pre : ∀ (K : Option Value → zHP → Prop) (sa : Nat → Nat → Int32) (lb : Nat → Nat → Int64) cp cw, zPR p (zu sa 127 0 0) N L T → zWM (d + 400) 232 [.ref 127, .int (nI h), .int x2] (sa, lb, zRA pl dr cp cw rp) K = (if x2 < 0 then K (some (.int (-1))) (zu sa 127 0 0, lb, zRA pl dr cp cw rp) else if x2 ≤ 1 then zWM (d + 399) 230 [.ref 127] (zu sa 127 0 0, lb, zRA pl dr cp cw rp) (zK (d + 400) 232 28 [some (.ref 127), some (.int (nI h)), some (.int x2), none, none, none, none, none, none] [] K) else K (some (.int (-1))) (zu sa 127 0 0, lb, zRA pl dr cp cw rp)) := by
    intro K sa lb cp cw hR
    rw [e232, b232_0, S_isM hR, kS, b232_10, if_neg hn1, if_neg (by decide)]
  by_cases a0 : x2 < 0
  · rw [if_pos a0]
    refine hc _ _ ?_
    rw [pre _ _ _ _ _ hR2, if_pos a0]
    exact fin2 _ _ rfl
  rw [if_neg a0]
  by_cases a1 : x2 ≤ 1
  case neg =>
    rw [if_neg a1]
    refine hc _ _ ?_
    rw [pre _ _ _ _ _ hR2, if_neg a0, if_neg a1]
    exact fin2 _ _ rfl
  rw [if_pos a1]
  obtain ⟨m, M, v, t, hn, hl⟩ := zNote_nt hNo
  refine S_weigh (M := M) (t := t) hn.1 hn.2.1 hn.2.2.2.1 hn.2.2.2.2.2.1 hn.2.2.2.2.2.2.1 hn.2.2.2.2.2.2.2.2.1 (fun k hk e => ⟨(hn.2.2.2.2.2.2.2.2.2 k hk e).1, (hn.2.2.2.2.2.2.2.2.2 k hk e).2.2.2.1⟩) (fun ja j1 j2 j3 => ?_)
  have fr0 : zFr ia la ja la := ⟨fun c k z => by
    by_cases e1 : c = 112
    · subst e1; exact absurd rfl z
    by_cases e2 : c = 106 ∧ k = 1
    · rw [e2.1, e2.2] at z; exact absurd rfl z
    exact j1 c k e1 e2, rfl, rfl⟩
  rw [kN, b122_26]
  -- what both choose
  have choose : ∀ (B : Nat → Bool) (sl : Nat → Int32), (∀ k, k < 11 → zSa p ia N M (zLm (zQs (ia 111) M) t M) h k (B k) (sl k)) → ∀ (sa : Nat → Nat → Int32) lb cp cw, zFr ia la sa lb → (∀ k, k < 11 → B k = true → sa 126 k = sl k) → zWP (d + 400) 122 105 [some (.ref 0), some (.int (nI h)), some (.int x2), some (.int (nI (zbm (zB1 B) 11))), some (.int 1), some (.int 2)] [] (sa, lb, zRA pl dr cp cw rp) Kc := by
    intro B sl hB sa lb cp cw hfr hsl
    have wl := fun b => zWo_le (B := B) (sl := sl) (b := b)
    have lpc := zlpE (fun i => zWP (d + 400) 122 105 [some (.ref 0), some (.int (nI h)), some (.int x2), some (.int (nI (zbm (zB1 B) 11))), some (.int (nI (zit (zBst B sl) i 1))), some (.int (nI (i + 2)))] [] (sa, lb, zRA pl dr cp cw rp) Kc) 98 (fun i hi => by
      show zWP (d + 400) 122 105 [some (.ref 0), some (.int (nI h)), some (.int x2), some (.int (nI (zbm (zB1 B) 11))), some (.int (nI (zit (zBst B sl) i 1))), some (.int (nI (i + 2)))] [] (sa, lb, zRA pl dr cp cw rp) Kc = zWP (d + 400) 122 105 [some (.ref 0), some (.int (nI h)), some (.int x2), some (.int (nI (zbm (zB1 B) 11))), some (.int (nI (zBst B sl i (zit (zBst B sl) i 1)))), some (.int (nI (i + 2 + 1)))] [] (sa, lb, zRA pl dr cp cw rp) Kc
      generalize zit (zBst B sl) i 1 = b
      rw [b122_105, if_neg (show ¬ (99 : Int32) < nI (i + 2) from nI_nlt (a := 99) (by omega) (by omega)), S_worst hsl, kS, b122_119, S_worst hsl, kS, b122_126, ns]
      unfold zBst
      have w1 := wl b
      have w2 := wl (i + 2)
      by_cases c : zWo B sl b ≤ zWo B sl (i + 2)
      · rw [if_pos (nI_le1 c (by omega)), if_pos c]
      · rw [if_neg (nI_nle1 (by omega) (by omega)), if_neg c])
    refine Eq.mpr lpc ?_
    show zWP (d + 400) 122 105 [some (.ref 0), some (.int (nI h)), some (.int x2), some (.int (nI (zbm (zB1 B) 11))), some (.int (nI (zit (zBst B sl) 98 1))), some (.int (nI 100))] [] (sa, lb, zRA pl dr cp cw rp) Kc
    -- the reference
    have model : ∀ (K : Option Value → zHP → Prop), (∀ ka lu, zFr ia la ka lu → K (some (.int (if x2 = 0 then nI (zit (zBst B sl) 98 1) else nI (zWo B sl (zit (zBst B sl) 98 1))))) (ka, lu, zRA pl dr cp cw rp)) → zWM (d + 400) 232 [.ref 127, .int (nI h), .int x2] (sa, lb, zRA pl dr cp cw rp) K := by
      intro K hK
      have hCs := zCore_fr i1 (zFr_0 (v := 0) hfr) hC
      rw [pre _ _ _ _ _ hCs.2.2.1, if_neg a0, if_pos a1]
      refine S_wnow (B := B) i1 hC hn (zFr_0 hfr) hl (fun k hk => ?_) (fun ka lu hfu => ?_)
      · obtain ⟨P, o, V, q1, q2, q3, _⟩ := hB k hk
        exact ⟨P, o, V, q1, q2, q3⟩
      rw [kS, b232_28, zbS_m 11 (by omega)]
      have e12 : nI (zbm (zB1 B) 11) = zbt (fun k => if k < 11 then zB1 B k else 0) := by
        unfold zbt
        congr 1
      have cb : zcnt (fun k => decide (¬ (fun k => if k < 11 then zB1 B k else (0 : Int32)) k = 0)) 12 = zcnt B 11 := by
        show (if decide (¬ (if 11 < 11 then zB1 B 11 else (0 : Int32)) = 0) = true then _ else zcnt (fun k => decide (¬ (fun k => if k < 11 then zB1 B k else (0 : Int32)) k = 0)) 11) = _
        rw [if_neg (by simp)]
        refine zcnt_ext 11 (fun k hk => ?_)
        unfold zB1
        simp [hk]
      have slants : ∀ (n i : Nat) ja lu, i + n = 11 → (∀ c k, ¬ zgr c k = 0 → ¬ (c = 127 ∧ k = 51) → ja c k = ia c k) → lu 72 = la 72 → lu 82 = la 82 → (∀ k, k < i → B k = true → ja 168 k = sl k) → zWP (d + 400) 232 32 [some (.ref 127), some (.int (nI h)), some (.int x2), some (.int (nI (zbm (zB1 B) 11))), some (.int (nI i)), none, none, none, none] [] (ja, lu, zRA pl dr cp cw rp) K := by
        intro n
        induction n with
        | zero =>
          intro i ja lu hi g1 l1 l2 g2
          have e11 : i = 11 := by omega
          subst e11
          rw [b232_32, if_pos (by decide)]
          have hfF : zFr ia la (zu ja 127 51 (-1)) lu := ⟨fun c k z => by
            rw [zu_at]
            by_cases e : c = 127 ∧ k = 51
            · rw [if_pos e, e.1, e.2]; exact hC.2.2.2.2.2.2.2.2.2.2.symm
            · rw [if_neg e]; exact g1 c k z e, l1, l2⟩
          have g2' : ∀ k, k < 11 → B k = true → zu ja 127 51 (-1) 168 k = sl k := fun k hk e => by rw [zu_o (by decide)]; exact g2 k hk e
          generalize zu ja 127 51 (-1) = fa at hfF g2' ⊢
          have one : ∀ (much : Nat) (i4 i5 : Int32) a7 a8, much ≤ 99 → zWP (d + 400) 232 101 [some (.ref 127), some (.int (nI h)), some (.int x2), some (.int (nI (zbm (zB1 B) 11))), some (.int i4), some (.int i5), some (.int (nI much)), a7, a8] [] (fa, lu, zRA pl dr cp cw rp) K = (if i4 = -1 then zWP (d + 400) 232 101 [some (.ref 127), some (.int (nI h)), some (.int x2), some (.int (nI (zbm (zB1 B) 11))), some (.int (nI much)), some (.int (nI (zWo B sl much))), some (.int (nI (much + 1))), some (.int (nI (zcnt (fun k => B k && decide (¬ sl k < nI much)) 11))), some (.int (nI (zWo B sl much)))] [] (fa, lu, zRA pl dr cp cw rp) K else if nI (zWo B sl much) < i5 then zWP (d + 400) 232 101 [some (.ref 127), some (.int (nI h)), some (.int x2), some (.int (nI (zbm (zB1 B) 11))), some (.int (nI much)), some (.int (nI (zWo B sl much))), some (.int (nI (much + 1))), some (.int (nI (zcnt (fun k => B k && decide (¬ sl k < nI much)) 11))), some (.int (nI (zWo B sl much)))] [] (fa, lu, zRA pl dr cp cw rp) K else zWP (d + 400) 232 101 [some (.ref 127), some (.int (nI h)), some (.int x2), some (.int (nI (zbm (zB1 B) 11))), some (.int i4), some (.int i5), some (.int (nI (much + 1))), some (.int (nI (zcnt (fun k => B k && decide (¬ sl k < nI much)) 11))), some (.int (nI (zWo B sl much)))] [] (fa, lu, zRA pl dr cp cw rp) K) := by
            intro much i4 i5 a7 a8 hmu
            have hb : zbm (zB1 B) 11 < 2048 := zbm_lt _ 11
            have hcB := zcnt_le B 11
            have hc2 := zcnt_sub (B := B) (Q := fun k => decide (¬ sl k < nI much)) 11
            rw [b232_101, if_neg (show ¬ (99 : Int32) < nI much from nI_nlt (a := 99) (by omega) (by omega))]
            have lq := zlpE (fun i => zWP (d + 400) 232 114 [some (.ref 127), some (.int (nI h)), some (.int x2), some (.int (nI (zbm (zB1 B) 11))), some (.int i4), some (.int i5), some (.int (nI much)), some (.int (nI (zcnt (fun k => B k && decide (¬ sl k < nI much)) i))), some (.int (nI i))] [] (fa, lu, zRA pl dr cp cw rp) K) 11 (fun i hi => by
              rw [b232_114, if_neg (show ¬ (10 : Int32) < nI i from nI_nlt (a := 10) (by omega) (by omega)), zbit_at (by omega) (by omega), zB1_t hi, zg (by omega) (by omega), zcln (by omega), ns, ns, Int32.add_zero, show zcnt (fun k => B k && decide (¬ sl k < nI much)) (i + 1) = (if (B i && decide (¬ sl i < nI much)) = true then zcnt (fun k => B k && decide (¬ sl k < nI much)) i + 1 else zcnt (fun k => B k && decide (¬ sl k < nI much)) i) from rfl]
              by_cases e : B i = true
              · rw [if_pos e, if_neg (fun z => z rfl), g2' i hi e, e, Bool.true_and]
                by_cases c : sl i < nI much
                · rw [if_pos c, if_neg (znd (fun z => z c))]
                · rw [if_neg c, if_pos (decide_eq_true c)]
              · have e' : B i = false := by simpa using e
                rw [if_neg e, if_pos (by decide), e']
                simp)
            refine Eq.trans lq ?_
            show zWP (d + 400) 232 114 [some (.ref 127), some (.int (nI h)), some (.int x2), some (.int (nI (zbm (zB1 B) 11))), some (.int i4), some (.int i5), some (.int (nI much)), some (.int (nI (zcnt (fun k => B k && decide (¬ sl k < nI much)) 11))), some (.int (nI 11))] [] (fa, lu, zRA pl dr cp cw rp) K = _
            rw [b232_114, if_pos (by decide)]
            have sb : ∀ K : Option Value → zHP → Prop, zWM (d + 399) 174 [.int (nI (zbm (zB1 B) 11))] (fa, lu, zRA pl dr cp cw rp) K = K (some (.int (nI (zcnt B 11)))) (fa, lu, zRA pl dr cp cw rp) := fun K => by rw [e12, S_bits, cb]
            rw [sb, kS, b232_165, zmaxI (by omega) hcB hc2, ns]
            rfl
          refine Eq.mpr (one 1 (-1) 0 none none (by omega)) ?_
          rw [if_pos rfl]
          have lpm : ∀ (n i : Nat) a7 a8, i + n = 98 → zWP (d + 400) 232 101 [some (.ref 127), some (.int (nI h)), some (.int x2), some (.int (nI (zbm (zB1 B) 11))), some (.int (nI (zit (zBst B sl) i 1))), some (.int (nI (zWo B sl (zit (zBst B sl) i 1)))), some (.int (nI (i + 2))), a7, a8] [] (fa, lu, zRA pl dr cp cw rp) K := by
            intro n
            induction n with
            | zero =>
              intro i a7 a8 hi
              have e98 : i = 98 := by omega
              subst e98
              rw [b232_101, if_pos (by decide)]
              have := hK fa lu hfF
              by_cases q : x2 = 0
              · rw [if_neg (fun z => z q)]
                rw [if_pos q] at this
                exact this
              · rw [if_pos q]
                rw [if_neg q] at this
                exact this
            | succ n ihn =>
              intro i a7 a8 hi
              have ih := fun a7 a8 => ihn (i + 1) a7 a8 (by omega)
              rw [show zit (zBst B sl) (i + 1) 1 = zBst B sl i (zit (zBst B sl) i 1) from rfl] at ih
              have hbl := zBst_le (B := B) (sl := sl) i
              generalize zit (zBst B sl) i 1 = b at ih hbl ⊢
              rw [one (i + 2) _ _ _ _ (by omega), if_neg (fun z => nI_pos (n := b) (by omega) (by rw [z]; decide))]
              have w1 := wl b
              have w2 := wl (i + 2)
              unfold zBst at ih
              by_cases c : zWo B sl b ≤ zWo B sl (i + 2)
              · rw [if_neg (nI_nlt c (by omega))]
                rw [if_pos c] at ih
                exact ih _ _
              · rw [if_pos (nI_lt (by omega) (by omega))]
                rw [if_neg c] at ih
                exact ih _ _
          exact lpm 98 0 _ _ (by omega)
        | succ n ih =>
          intro i ja lu hi g1 l1 l2 g2
          obtain ⟨P, o, V, hP, hg, hb, hsl2⟩ := hB i (by omega)
          rw [b232_32, if_neg (show ¬ (10 : Int32) < nI i from nI_nlt (a := 10) (by omega) (by omega)), show (10 : Int32) * nI i = nI (10 * i) by rw [show (10 : Int32) = nI 10 from rfl, pk_mul]]
          have kk : ∀ k, k ≠ 51 → ¬ zgr 127 k = 0 → zu ja 127 51 (nI (10 * i)) 127 k = ia 127 k := fun k h3 h4 => by rw [zu_k h3]; exact g1 127 k h4 (by omega)
          have oo : ∀ c, c ≠ 127 → zu ja 127 51 (nI (10 * i)) c = ja c := fun c h => zu_o h
          have hRj : zPR P (zu ja 127 51 (nI (10 * i))) N L T := zPR_e hP hC.2.1 (zPR_i (fun c q1 q2 => by
            rw [oo c (by omega)]
            funext j
            refine g1 c j ?_ (by omega)
            rw [zgr_2b q1 q2]; decide) hC.2.2.1)
          have hPk := zPk_e hP hC.2.1
          refine Eq.mpr (S_starts (s := 1) (P := P) (V := V) (by omega) hPk hRj) ?_
          rw [kN, b232_53]
          refine S_goesOn (n := 60) (D := 0) (p := P) (o := o) (by omega) hPk hRj (zOp_g (k := i) (by omega) hg (by rw [kk 49 (by decide) (by decide)]; exact hC.2.2.2.2.2.2.2.2.1) (by rw [kk 50 (by decide) (by decide)]; exact hC.2.2.2.2.2.2.2.2.2.1) (zu_eq _ _ _ _)) ⟨10 * i, by omega, hg.2.1⟩ (by omega) (zWf_beg hPk) (fun ua lc r' s1 s2 s3 => ?_)
          generalize (zDays P o 60 (zBeg P N V) (P 28 2).toInt64).1 = X at hsl2 ⊢
          rw [kN, b232_59, show (3 : Int32) * (6 + nI h) = nI (3 * (6 * 1 + h) + 0) by rw [show (6 : Int32) = nI 6 from rfl, nI_add, m3']; rfl, zg (by omega) (by omega), zg (by omega) (by omega), zcln (by omega), zcln (by omega), zR152 hh hN6 (by omega), ns]
          refine ih (i + 1) _ lc (by omega) (fun c k z1 z2 => ?_) (by rw [s2 72 (by decide) (by decide)]; exact l1) (by rw [s2 82 (by decide) (by decide)]; exact l2) (fun k hk e => ?_)
          · have e0 : c ≠ 168 := fun e => by subst e; exact absurd rfl z1
            obtain ⟨y, rfl⟩ := s1
            rw [zu_o e0]
            by_cases e1 : zIn 1 c k
            · rw [zgr_in e1] at z1; exact absurd rfl z1
            · rw [zPM_out e1, zu_at]
              by_cases e2 : c = 127 ∧ k = 34
              · rw [e2.1, e2.2] at z1; exact absurd rfl z1
              · rw [if_neg e2, zu_at, if_neg z2]; exact g1 c k z1 z2
          · rw [zu_at]
            by_cases ek : k = i
            · subst ek
              rw [if_pos ⟨rfl, rfl⟩, hsl2 e]
              rfl
            · rw [if_neg (fun z => ek z.2), zPM_o (by omega), zSc_c s1 (by decide), oo 168 (by decide)]
              exact g2 k (by omega) e
      exact slants 11 0 ka lu (by omega) (fun c k z _ => hfu.1 c k z) hfu.2.1 hfu.2.2 (fun k hk => by omega)
    rw [b122_105, if_pos (by decide)]
    by_cases q : x2 = 0
    · rw [if_neg (fun z => z q)]
      refine hc _ _ (model _ (fun ka lu hfu => ?_))
      rw [if_pos q]
      exact fin _ _ _ _ _ _ _ hfu rfl
    · rw [if_pos q, S_worst hsl, kS, b122_155]
      refine hc _ _ (model _ (fun ka lu hfu => ?_))
      rw [if_neg q]
      exact fin _ _ _ _ _ _ _ hfu rfl
  have lp : ∀ (n i : Nat) (sa : Nat → Nat → Int32) lb (B : Nat → Bool) (sl : Nat → Int32) cp cw, i + n = 11 → zFr ia la sa lb → sa 106 1 = nI (zLm (zQs (ia 111) M) t M) → (∀ j, j < 24 → sa 112 j = if zQs (ia 111) M j = true then 1 else 0) → (∀ k, k < i → zSa p ia N M (zLm (zQs (ia 111) M) t M) h k (B k) (sl k)) → (∀ k, k < i → B k = true → sa 126 k = sl k) → zWP (d + 400) 122 31 [some (.ref 0), some (.int (nI h)), some (.int x2), some (.int (zit (zbS B) i 0)), some (.int (nI i)), none] [] (sa, lb, zRA pl dr cp cw rp) Kc := by
    intro n
    induction n with
    | zero =>
      intro i sa lb B sl cp cw hi hfr s1 s2 hB hsl
      have e11 : i = 11 := by omega
      subst e11
      rw [b122_31, if_pos (by decide), zbS_m 11 (by omega)]
      exact choose B sl hB sa lb cp cw hfr hsl
    | succ n ih =>
      intro i sa lb B sl cp cw hi hfr s1 s2 hB hsl
      have step : ∀ (b : Bool) (u : Int32), zSa p ia N M (zLm (zQs (ia 111) M) t M) h i b u → (∀ k, k < i + 1 → zSa p ia N M (zLm (zQs (ia 111) M) t M) h k ((fun k => if k = i then b else B k) k) ((fun k => if k = i then u else sl k) k)) ∧ zit (zbS (fun k => if k = i then b else B k)) (i + 1) (0 : Int32) = zbS (fun _ => b) i (zit (zbS B) i 0) := by
        intro b u hb
        refine ⟨fun k hk => ?_, ?_⟩
        · by_cases e : k = i
          · subst e; simpa using hb
          · simp only [e, if_false]; exact hB k (by omega)
        · show zbS (fun k => if k = i then b else B k) i (zit (zbS (fun k => if k = i then b else B k)) i 0) = _
          rw [zit_e (g := zbS B) i (fun j a hj => by unfold zbS; simp [show ¬ j = i by omega])]
          unfold zbS
          simp
      rw [b122_31, if_neg (show ¬ (11 : Int32) ≤ nI i from nI_nle1 (a := 11) (by omega) (by omega))]
      refine S_agw (k := i) i1 (by omega) hC hn hfr s1 hl s2 (fun P o V sa' lb' hP hg hF hf' hs' => ?_) (fun V ia2 la2 hP hg hF ho l1 l2 l3 => ?_)
      · obtain ⟨q1, q2⟩ := step false 0 ⟨P, o, V, hP, hg, by rw [hF]; rfl, fun z => absurd z (by decide)⟩
        have nx := ih (i + 1) sa' lb' _ _ (some pl) (some 92) (by omega) hf' (by rw [hs' _ (by decide)]; exact s1) (fun j hj => by rw [hs' _ (by decide)]; exact s2 j hj) q1 (fun k hk e => by
          by_cases ek : k = i
          · subst ek; simp at e
          · simp only [ek, if_false] at e ⊢
            rw [hs' _ (by decide)]; exact hsl k (by omega) e)
        rw [q2] at nx
        rw [kS, b122_44, if_pos rfl, ns]
        exact nx
      · have hPk := zPk_e hP hC.2.1
        have ho4 : ∃ a, a ≤ 100 ∧ ia2 102 4 = nI a := ⟨10 * i, by omega, hg.2.1⟩
        have hB0 : zWf (fun g => ia2 (pl + g)) N T 0 (zBeg (fun g => ia2 (pl + g)) N V) := zWf_beg hPk
        have hXf := zDays_wf (r := (ia2 (pl + 28) 2).toInt64) hPk ho4 hB0 (zLm (zQs (ia 111) M) t M) (by omega)
        have add := zDays_add (P := fun g => ia2 (pl + g)) (o := ia2 102) (V := zBeg (fun g => ia2 (pl + g)) N V) (r := (ia2 (pl + 28) 2).toInt64) (a := zLm (zQs (ia 111) M) t M) (60 - zLm (zQs (ia 111) M) t M)
        rw [show zLm (zQs (ia 111) M) t M + (60 - zLm (zQs (ia 111) M) t M) = 60 by omega] at add
        obtain ⟨q1, q2⟩ := step true _ ⟨fun g => ia2 (pl + g), ia2 102, V, hP, hg, by rw [show (fun g => ia2 (pl + g)) 28 2 = ia2 (pl + 28) 2 from rfl, hF]; rfl, fun _ => rfl⟩
        rw [show (fun g => ia2 (pl + g)) 28 2 = ia2 (pl + 28) 2 from rfl, add] at q1
        rw [kS, b122_44, if_neg (by decide), zPW_o (by omega), ho 106 (by omega), s1, show (60 : Int32) - nI (zLm (zQs (ia 111) M) t M) = nI (60 - zLm (zQs (ia 111) M) t M) by rw [show (60 : Int32) = nI 60 from rfl, pk_sub hl]]
        refine S_play (by omega) (Or.inr (Or.inr rfl)) i1 hPk (zTd_ten hXf.1.2.1) (fun la3 h5 h6 => ?_)
        rw [l3] at h6 ⊢
        generalize (zDays (fun g => ia2 (pl + g)) (ia2 102) (60 - zLm (zQs (ia 111) M) t M) (zDays (fun g => ia2 (pl + g)) (ia2 102) (zLm (zQs (ia 111) M) t M) (zBeg (fun g => ia2 (pl + g)) N V) (ia2 (pl + 28) 2).toInt64).1 (zDays (fun g => ia2 (pl + g)) (ia2 102) (zLm (zQs (ia 111) M) t M) (zBeg (fun g => ia2 (pl + g)) N V) (ia2 (pl + 28) 2).toInt64).2).1 = X at q1 ⊢
        rw [kN, b122_64, n3', zg (by omega) (by omega), zg (by omega) (by omega), zcln (by omega), zcln (by omega), show zPW 92 X ia2 94 = X 2 from zPW_g (g := 2) (by omega), ns]
        have nx := ih (i + 1) (zu (zPW 92 X ia2) 126 i (X 2 (3 * h) / 1000)) la3 _ _ (some pl) (some 92) (by omega) ⟨zFG_u rfl (zFG_PW (fun c k h1 h2 => zgr_0 h1 (by omega)) (fun c k z => by
          by_cases e : c < 92 ∨ 102 < c
          · rw [ho c e]; exact hfr.1 c k z
          · exact absurd (zgr_0 (by omega) (by omega)) z)), by rw [h5 72 (by decide) (by decide) (by decide), l1]; exact hfr.2.1, by rw [h5 82 (by decide) (by decide) (by decide), l2]; exact hfr.2.2⟩ (by rw [zu_o (by decide), zPW_o (by omega), ho _ (by omega)]; exact s1) (fun j hj => by rw [zu_o (by decide), zPW_o (by omega), ho _ (by omega)]; exact s2 j hj) q1 (fun k hk e => by
          by_cases ek : k = i
          · subst ek; simp [zu_at]
          · simp only [ek, if_false] at e ⊢
            rw [zu_k ek, zPW_o (by omega), ho _ (by omega)]; exact hsl k (by omega) e)
        rw [q2] at nx
        exact nx
  exact lp 11 0 ja la (fun _ => false) (fun _ => 0) cp cw (by omega) fr0 j2 j3 (fun k hk => by omega) (fun k hk => by omega)
