/-! the class's sums -/
section ZP
variable {d pl dr : Nat} {cp cw rp : Option Nat} {ia : Nat → Nat → Int32} {la : Nat → Nat → Int64} {K : Option Value → zHP → Prop}
theorem S_wth {v : Int64} : zWM d 54 [.long v] (ia, la, zRA pl dr cp cw rp) K = K (some (.long (zwth v))) (ia, la, zRA pl dr cp cw rp) := by
  rw [e54, b54_0]
  simp only [lg_cmp_gt, lg_cmp_ge, zwth, zKifL, zER]
theorem S_prd {a b : Int64} : zWM d 55 [.long a, .long b] (ia, la, zRA pl dr cp cw rp) K = K (some (.long (zprd a b))) (ia, la, zRA pl dr cp cw rp) := by
  have fin : ∀ x y : Int64, zWP d 55 26 [some (.long a), none, some (.long b), none, some (.long x), none, none, none] [.long y] (ia, la, zRA pl dr cp cw rp) K = K (some (.long (if x = 0 then a * b else if y ≤ 1000000000000 / x then a * b else zER))) (ia, la, zRA pl dr cp cw rp) := by
    intro x y
    rw [b55_26]
    simp only [lg_cmp_eq, lg_cmp_le, zKifL, zER]
    by_cases h : x = 0
    · rw [if_pos h, if_pos h]
    · rw [if_neg h, if_neg h, zdrop h]
  have mid : ∀ x : Int64, zWP d 55 12 [some (.long a), none, some (.long b), none, none, none, none, none] [.long x] (ia, la, zRA pl dr cp cw rp) K = K (some (.long (if x = 0 then a * b else if (if 0 ≤ b then b else -b) ≤ 1000000000000 / x then a * b else zER))) (ia, la, zRA pl dr cp cw rp) := by
    intro x
    rw [b55_12]
    simp only [lg_cmp_ge, fin]
    by_cases h : 0 ≤ b
    · simp only [if_pos h]
    · simp only [if_neg h]
  rw [e55, b55_0]
  simp only [lg_cmp_ge, mid]
  unfold zprd
  by_cases h : 0 ≤ a
  · simp only [if_pos h]
  · simp only [if_neg h]
theorem S_join {c : Int32} {a b : Int64} : zWM (d + 2) 53 [.int c, .long a, .long b] (ia, la, zRA pl dr cp cw rp) K = K (some (.long (zJoin c a b))) (ia, la, zRA pl dr cp cw rp) := by
  rw [e53, b53_0]
  simp only [lg_cmp_ge, lg_cmp_gt, lg_cmp_le, lg_cmp_lt, lg_cmp_eq, e52, b52_0, S_wth, S_prd, kS, b53_172, b53_187, b53_202, b53_217, b53_232, b53_247, b53_254, b53_261, b53_267, b53_268, b53_136, b53_157]
  unfold zJoin
  by_cases h7 : c = 7
  · subst h7; simp [zKifL]
  by_cases h8 : c = 8
  · subst h8; simp [zKifL]
  by_cases h9 : c = 9
  · subst h9; simp [zKifL]
  by_cases h10 : c = 10
  · subst h10; simp [zKifL]
  by_cases h11 : c = 11
  · subst h11; simp [zKifL]
  by_cases h12 : c = 12
  · subst h12; simp [zKifL]
  by_cases h13 : c = 13
  · subst h13; simp [zKifL]
  by_cases h14 : c = 14
  · subst h14; simp [zKifL]
  by_cases h15 : c = 15
  · subst h15; simp [zKifL]
  by_cases h30 : c = 30
  · subst h30; simp [zKifL]
  by_cases h31 : c = 31
  · subst h31; simp [zKifL]
  simp only [h7, h8, h9, h10, h11, h12, h13, h14, h15, h30, h31, if_false, ite_self, zKifL, zER]
  by_cases hb : b = 0
  · simp only [hb, not_true, if_false]
  · simp only [hb, not_false_eq_true, if_true, true_and]
theorem S_tell {w h m : Nat} {W : Nat → Nat → Int32} {pr : Int32} (hw : zIsW w) (hh : h < 6) (hm : m < 6) : zWM d 50 [.ref 103, .ref w, .int (nI h), .int (nI m), .int pr] (zPW w W ia, la, zRA pl dr cp cw rp) K = K none (zPW w W ia, zTl la 104 (zNm W h m pr), zRA pl dr cp cw rp) := by
  rw [e50, b50_0 hw]
  rw [b50_3 hw, if_neg (by decide), n3a, zg (by omega) (by omega), v0 (by omega) (by omega), zcln (by omega), i01]
  rw [b50_3 hw, if_neg (by decide), n3b, zg (by omega) (by omega), v1 (by omega) (by omega), zcln (by omega), i11]
  rw [b50_3 hw, if_neg (by decide), n3c, zg (by omega) (by omega), v2 (by omega) (by omega), zcln (by omega), i21]
  rw [b50_3 hw, if_pos (by decide), zg (by omega) (by omega), zg (by omega) (by omega), zcln (by omega), zcln (by omega)]
  rw [zPW_g (by omega), zPW_g (by omega), zPW_g (by omega), zPW_0]
  congr 3
  funext o k
  unfold zTl zNm
  simp only [zu_at, show Int32.toNatClampNeg 0 = 0 from rfl, show Int32.toNatClampNeg 1 = 1 from rfl, show Int32.toNatClampNeg 2 = 2 from rfl]
  by_cases ho : o = 104
  · subst ho
    by_cases k6 : k = 6
    · subst k6; simp
    by_cases k5 : k = 5
    · subst k5; simp
    by_cases k4 : k = 4
    · subst k4; simp
    by_cases k3 : k = 3
    · subst k3; simp
    by_cases k2 : k = 2
    · subst k2; simp
    by_cases k1 : k = 1
    · subst k1; simp
    by_cases k0 : k = 0
    · subst k0; simp
    · simp only [k6, k5, k4, k3, k2, k1, k0, and_false, if_false]
      rw [if_neg (by omega)]
  · simp only [ho, false_and, if_false]
theorem zup_l (c : Nat) (f : Nat → Int64) (k : Nat) (v : Int64) (la : Nat → Nat → Int64) : zu (va_up la c f) c k v = va_up la c (va_up f k v) := by
  funext o j
  rw [zu_at]
  unfold va_up
  by_cases h : o = c
  · subst h
    by_cases h2 : j = k
    · simp [h2]
    · simp [h2]
  · simp [h]
theorem zup_s {c : Nat} {f : Nat → Int64} {la : Nat → Nat → Int64} : va_up la c f c = f := by unfold va_up; simp
theorem zup_n {c o : Nat} {f : Nat → Int64} {la : Nat → Nat → Int64} (h : o ≠ c) : va_up la c f o = la o := by unfold va_up; simp [h]
theorem zup_q {c : Nat} {f : Nat → Int64} {la : Nat → Nat → Int64} (h : la c = f) : va_up la c f = la := by
  funext o
  unfold va_up
  by_cases e : o = c
  · subst e; simp [h]
  · simp [e]
/-- kinds of knots -/
def zkk (c : Int32) : Prop := c = 2 ∨ (7 ≤ c ∧ c ≤ 16) ∨ (30 ≤ c ∧ c ≤ 32) ∨ ∃ j : Nat, j < 7 ∧ c = nI (33 + j)
theorem S_work_l {p r b : Nat} (hp1 : zIsP p) (hr : r < 3) (hb : ia (p + 30) r = nI b) (hb6 : b ≤ 64) : ∀ (n k m : Nat) (f : Nat → Int64) (a5 : Option Value), k + n = b → m ≤ k → (∀ j, k ≤ j → j < b → zkk (ia (p + 31) j)) → (∀ la', zL5 la la' → K (some (.long (zRun (fun g => ia (p + g)) (la 104) n k m f))) (ia, la', zRA pl dr cp cw rp)) → zWP (d + 3) 51 10 [some (.ref 103), some (.ref p), some (.int (nI r)), some (.int (nI m)), some (.int (nI k)), a5] [] (ia, va_up la 105 f, zRA pl dr cp cw rp) K := by
  intro n
  induction n with
  | zero =>
    intro k m f a5 hk hm hz hK
    rw [b51_10 hp1, zg (by omega) (by omega), zcln (by omega), hb, if_pos (nI_le1 (by omega) (by omega))]
    unfold zRun at hK
    by_cases h0 : m = 0
    · subst h0
      rw [if_pos (by decide)]
      exact hK _ (fun c _ h5 => zup_n h5)
    · rw [if_neg (qnle_0 (by omega) (by omega)), zup_s]
      rw [if_neg h0] at hK
      exact hK _ (fun c _ h5 => zup_n h5)
  | succ n ih =>
    intro k m f a5 hk hm hz hK
    rw [b51_10 hp1, zg (by omega) (by omega), zcln (by omega), hb, if_neg (nI_nle1 (by omega) (by omega)), zg (by omega) (by omega), zcln (by omega)]
    have hz' : ∀ j, k + 1 ≤ j → j < b → zkk (ia (p + 31) j) := fun j h1 h2 => hz j (by omega) h2
    have hkk := hz k (by omega) (by omega)
    unfold zRun at hK
    by_cases h2 : ia (p + 31) k = 2
    · rw [if_pos h2, b51_43 hp1, if_neg (by rw [h2]; decide), zg (by omega) (by omega), zg (by omega) (by omega), zcln (by omega), zcln (by omega), ns, ns, zup_l]
      rw [if_pos h2] at hK
      exact ih _ _ _ _ (by omega) (by omega) hz' hK
    · rw [if_neg h2]
      rw [if_neg h2] at hK
      by_cases h3 : ia (p + 31) k < 33
      · rw [if_pos h3]
        rw [if_neg (fun q => q h3)] at hK
        have joint : ¬ (ia (p + 31) k = 32 ∧ 0 < m) → zWP (d + 3) 51 125 [some (.ref 103), some (.ref p), some (.int (nI r)), some (.int (nI m)), some (.int (nI k)), some (.int (ia (p + 31) k))] [] (ia, va_up la 105 f, zRA pl dr cp cw rp) K := by
          intro hn
          rw [if_neg hn] at hK
          rw [b51_125 hp1]
          by_cases h4 : m ≤ 1
          · rw [if_pos h4] at hK
            rw [if_pos (qle_1 h4), ns]
            exact ih _ _ _ _ (by omega) (by omega) hz' hK
          · rw [if_neg h4] at hK
            rw [if_neg (qnle_1 (by omega) (by omega))]
            obtain ⟨q, rfl⟩ : ∃ q, m = q + 1 + 1 := ⟨m - 2, by omega⟩
            rw [nm, np, zg (by omega) (by omega), zg (by omega) (by omega), zcln (by omega), zcln (by omega), S_join, kS, b51_159 hp1, zg (by omega) (by omega), np, zg (by omega) (by omega), zcln (by omega), zu_eq, zup_s, zup_l]
            simp only [lg_cmp_eq]
            have e1 : q + 1 + 1 - 2 = q := by omega
            have e2 : q + 1 + 1 - 1 = q + 1 := by omega
            rw [e1, e2] at hK
            by_cases h5 : zJoin (ia (p + 31) k) (f q) (f (q + 1)) = zER
            · rw [if_pos h5] at hK
              rw [if_neg (fun q => q h5)]
              exact hK _ (fun c _ h5 => zup_n h5)
            · rw [if_neg h5] at hK
              rw [if_pos (by exact h5), ns]
              exact ih _ _ _ _ (by omega) (by omega) hz' hK
        by_cases h32 : ia (p + 31) k = 32
        · rw [if_neg (fun q => q h32)]
          by_cases hm0 : m = 0
          · subst hm0
            rw [if_pos (by decide)]
            exact joint (by omega)
          · rw [if_neg (qnle_0 (by omega) (by omega))]
            rw [if_pos ⟨h32, by omega⟩] at hK
            obtain ⟨q, rfl⟩ : ∃ q, m = q + 1 := ⟨m - 1, by omega⟩
            rw [np, zg (by omega) (by omega), zcln (by omega), zup_s]
            simp only [lg_cmp_eq, e52, b52_0, kS, b51_121 hp1]
            rw [show q + 1 - 1 = q from by omega] at hK
            by_cases h6 : f q = 0
            · rw [if_pos h6] at hK
              rw [if_neg (fun q => q h6), if_neg (by decide), zg (by omega) (by omega), ns, zcln (by omega), zup_l]
              exact ih _ _ _ _ (by omega) (by omega) hz' hK
            · rw [if_neg h6] at hK
              rw [if_pos h6, if_pos (by decide), zg (by omega) (by omega), ns, zcln (by omega), zup_l]
              exact ih _ _ _ _ (by omega) (by omega) hz' hK
        · rw [if_pos h32]
          exact joint (fun q => h32 q.1)
      · rw [if_neg h3]
        rw [if_pos h3] at hK
        have hn : ∃ j : Nat, j < 7 ∧ ia (p + 31) k = nI (33 + j) := by
          rcases hkk with h | h | h | h
          · exact absurd h h2
          · exact absurd (Int32.lt_of_le_of_lt h.2 (by decide)) h3
          · exact absurd (Int32.lt_of_le_of_lt h.2 (by decide)) h3
          · exact h
        obtain ⟨j, hj, ej⟩ := hn
        have e33 : ia (p + 31) k - 33 = nI j := by rw [ej, show (33 : Int32) = nI 33 from rfl, pk_sub (by omega)]; congr 1; omega
        rw [b51_43 hp1, if_pos h2, e33, zg (by omega) (by omega), zg (by omega) (by omega), zcln (by omega), zcln (by omega), ns, ns, zup_l, zup_n (by decide)]
        simp only [e33, zcln (show j < 100000 by omega)] at hK
        exact ih _ _ _ _ (by omega) (by omega) hz' hK
/-- the laws' knots lie as they must -/
def zLk (p : Nat → Nat → Int32) : Prop := ∀ r, r < 3 → ∃ a b, a ≤ b ∧ b ≤ 64 ∧ p 29 r = nI a ∧ p 30 r = nI b ∧ ∀ j, a ≤ j → j < b → zkk (p 31 j)
/-- the value of the law r of the plan p -/
def zVal (p : Nat → Nat → Int32) (nm : Nat → Int64) (r : Nat) : Int64 := zRun p nm ((p 30 r).toNatClampNeg - (p 29 r).toNatClampNeg) (p 29 r).toNatClampNeg 0 (fun _ => 0)
theorem S_work {p r : Nat} (hp1 : zIsP p) (hr : r < 3) (hz : zLk (fun g => ia (p + g))) (hK : ∀ la', zL5 la la' → K (some (.long (zVal (fun g => ia (p + g)) (la 104) r))) (ia, la', zRA pl dr cp cw rp)) : zWM (d + 3) 51 [.ref 103, .ref p, .int (nI r)] (ia, la, zRA pl dr cp cw rp) K := by
  obtain ⟨a, b, hab, hb6, ea, eb, hk⟩ := hz r hr
  dsimp only at ea eb
  rw [e51, b51_0 hp1, zg (by omega) (by omega), zcln (by omega), ea]
  unfold zVal at hK
  dsimp only at hK
  rw [eb, ea, zcln (by omega), zcln (by omega)] at hK
  rw [← zup_q (la := la) (c := 105) rfl]
  exact S_work_l hp1 hr eb hb6 (b - a) a 0 (la 105) none (by omega) (by omega) hk (fun la' h => by
    have := hK la' h
    rw [zRun_ext _ _ _ _ _ (fun _ => 0) (la 105) (fun i hi => by omega)] at this
    exact this)
/-- v within 0 and M -/
def zlcl (M v : Int64) : Int32 := (if (if v < M then v else M) < 0 then 0 else (if v < M then v else M)).toInt32
/-- RENT, turn and fine by the plan p and the course o in the world W -/
def zBnd (p : Nat → Nat → Int32) (o : Nat → Int32) (W : Nat → Nat → Int32) (r h m : Nat) (pr : Int32) : Int32 :=
  if (r = 0 ∧ ¬ o 6 = 0) ∨ (r = 2 ∧ ¬ o 7 = 0) then 0 else
  if zVal p (zNm W h m pr) r = zER then (if r = 0 then pr else if r = 1 then 10 * o 4 else 10) else zlcl (if r = 1 then 1000 else 999) (zVal p (zNm W h m pr) r)
theorem S_bnd {p w r h m : Nat} {W : Nat → Nat → Int32} {pr : Int32} (hp : zIsP p) (hw : zIsW w) (hr : r < 3) (hh : h < 6) (hm : m < 6) (hz : zLk (fun g => ia (p + g))) (hK : ∀ la', zL5 la la' → K (some (.int (zBnd (fun g => ia (p + g)) (ia 102) W r h m pr))) (zPW w W ia, la', zRA pl dr (some p) (some w) rp)) : zWM (d + 5) 10 [.ref 102, .int (nI r), .int (nI h), .int (nI m), .int pr] (zPW w W ia, la, zRA pl dr (some p) (some w) rp) K := by
  have main : (¬ ((r = 0 ∧ ¬ ia 102 6 = 0) ∨ (r = 2 ∧ ¬ ia 102 7 = 0))) → zWM (d + 4) 50 [.ref 103, .ref w, .int (nI h), .int (nI m), .int pr] (zPW w W ia, la, zRA pl dr (some p) (some w) rp) (zK (d + 5) 10 40 [some (.ref 102), some (.int (nI r)), some (.int (nI h)), some (.int (nI m)), some (.int pr), none, none] [] K) := by
    intro hn
    rw [S_tell hw hh hm, kN, b10_40]
    have eP : (fun g => zPW w W ia (p + g)) = (fun g => zPW w W ia (p + g)) := rfl
    have hv : ∀ nm2, zVal (fun g => zPW w W ia (p + g)) nm2 r = zVal (fun g => ia (p + g)) nm2 r := by
      intro nm2
      unfold zVal
      dsimp only
      rw [zPW_p hw hp (by omega), zPW_p hw hp (by omega)]
      have : ∀ (n k m2 : Nat) (f : Nat → Int64), zRun (fun g => zPW w W ia (p + g)) nm2 n k m2 f = zRun (fun g => ia (p + g)) nm2 n k m2 f := by
        intro n
        induction n with
        | zero => intro k m2 f; rfl
        | succ n ih => intro k m2 f; unfold zRun; simp only [zPW_p (W := W) (ia := ia) hw hp (show 31 < 33 by omega), zPW_p (W := W) (ia := ia) hw hp (show 32 < 33 by omega), ih]
      exact this _ _ _ _
    refine S_work hp hr ?_ ?_
    · intro r2 h2
      obtain ⟨a, b, q1, q2, q3, q4, q5⟩ := hz r2 h2
      refine ⟨a, b, q1, q2, ?_, ?_, ?_⟩
      · show zPW w W ia (p + 29) r2 = _; rw [zPW_p hw hp (by omega)]; exact q3
      · show zPW w W ia (p + 30) r2 = _; rw [zPW_p hw hp (by omega)]; exact q4
      · intro j j1 j2; show zkk (zPW w W ia (p + 31) j); rw [zPW_p hw hp (by omega)]; exact q5 j j1 j2
    · intro la2 h2
      have h3 : zL5 la la2 := by
        intro c c4 c5
        rw [h2 c c4 c5]
        funext k
        unfold zTl
        rw [if_neg (fun q => c4 q.1)]
      have hK2 := hK la2 h3
      rw [hv, kS, b10_52]
      have e104 : zTl la 104 (zNm W h m pr) 104 = fun k => if k < 7 then zNm W h m pr k else la 104 k := by
        funext k; unfold zTl; simp
      have hnm : zVal (fun g => ia (p + g)) (zTl la 104 (zNm W h m pr) 104) r = zVal (fun g => ia (p + g)) (zNm W h m pr) r := by
        rw [e104]
        obtain ⟨a, b, q1, q2, q3, q4, q5⟩ := hz r hr
        dsimp only at q3 q4 q5
        unfold zVal
        dsimp only
        rw [q3, q4, zcln (by omega), zcln (by omega)]
        have : ∀ (n k m2 : Nat) (f : Nat → Int64), a ≤ k → k + n ≤ b → zRun (fun g => ia (p + g)) (fun k => if k < 7 then zNm W h m pr k else la 104 k) n k m2 f = zRun (fun g => ia (p + g)) (zNm W h m pr) n k m2 f := by
          intro n
          induction n with
          | zero => intro k m2 f _ _; rfl
          | succ n ih =>
            intro k m2 f h1 h2
            unfold zRun
            simp only [fun m2 f => ih (k + 1) m2 f (by omega) (by omega)]
            by_cases e2 : ia (p + 31) k = 2
            · rw [if_pos e2, if_pos e2]
            · rw [if_neg e2, if_neg e2]
              by_cases e3 : ia (p + 31) k < 33
              · simp only [e3, not_true, if_false]
              · rw [if_pos e3, if_pos e3]
                have hn : ∃ j : Nat, j < 7 ∧ ia (p + 31) k = nI (33 + j) := by
                  rcases q5 k (by omega) (by omega) with h | h | h | h
                  · exact absurd h e2
                  · exact absurd (Int32.lt_of_le_of_lt h.2 (by decide)) e3
                  · exact absurd (Int32.lt_of_le_of_lt h.2 (by decide)) e3
                  · exact h
                obtain ⟨j, hj, ej⟩ := hn
                have e33 : ia (p + 31) k - 33 = nI j := by rw [ej, show (33 : Int32) = nI 33 from rfl, pk_sub (by omega)]; congr 1; omega
                rw [e33, zcln (by omega), if_pos hj]
        exact this _ _ _ _ (by omega) (by omega)
      rw [hnm]
      unfold zBnd at hK2
      rw [if_neg hn] at hK2
      simp only [lg_cmp_eq]
      by_cases h5 : zVal (fun g => ia (p + g)) (zNm W h m pr) r = zER
      · rw [if_pos h5] at hK2
        rw [if_neg (fun q => q h5)]
        by_cases r0 : r = 0
        · subst r0
          rw [if_neg (by decide)]
          exact hK2
        · rw [if_neg r0] at hK2
          rw [if_pos (qne_0 r0 (by omega))]
          by_cases r1 : r = 1
          · subst r1
            rw [if_pos rfl] at hK2
            rw [if_neg (by decide), zPW_102 hw (by omega)]
            exact hK2
          · rw [if_neg r1] at hK2
            rw [if_pos (qne_1 r1 (by omega))]
            exact hK2
      · rw [if_neg h5] at hK2
        rw [if_pos (show ¬ zVal (fun g => ia (p + g)) (zNm W h m pr) r = -9223372036854775808 from h5)]
        by_cases r1 : r = 1
        · subst r1
          rw [if_pos rfl] at hK2
          rw [if_neg (by decide)]
          exact hK2
        · rw [if_neg r1] at hK2
          rw [if_pos (qne_1 r1 (by omega))]
          exact hK2
  rw [e10, b10_0]
  have free : ((r = 0 ∧ ¬ ia 102 6 = 0) ∨ (r = 2 ∧ ¬ ia 102 7 = 0)) → K (some (.int 0)) (zPW w W ia, la, zRA pl dr (some p) (some w) rp) := by
    intro hf
    have := hK la (zL5_r la)
    unfold zBnd at this
    rw [if_pos hf] at this
    exact this
  rw [zPW_102 hw (by omega), b10_11, zPW_102 hw (by omega)]
  by_cases r0 : r = 0
  · subst r0
    rw [if_neg (by decide)]
    by_cases h6 : ia 102 6 = 0
    · rw [if_neg (fun q => q h6), if_pos (by decide)]
      exact main (fun q => q.elim (fun z => z.2 h6) (fun z => absurd z.1 (by decide)))
    · rw [if_pos h6]
      exact free (Or.inl ⟨rfl, h6⟩)
  · rw [if_pos (qne_0 r0 (by omega))]
    by_cases r2 : r = 2
    · subst r2
      rw [if_neg (by decide)]
      by_cases h7 : ia 102 7 = 0
      · rw [if_pos h7]
        exact main (fun q => q.elim (fun z => absurd z.1 (by decide)) (fun z => z.2 h7))
      · rw [if_neg h7]
        exact free (Or.inr ⟨rfl, h7⟩)
    · rw [if_pos (qne_2 r2 (by omega))]
      exact main (fun q => q.elim (fun z => r0 z.1) (fun z => r2 z.1))
end ZP
