/-! free and tried -/
section ZP
variable {N L T D h t : Nat} {p W V : Nat → Nat → Int32} {o : Nat → Int32} {r : Int64}
theorem zLease_let (hk : zPk p N L T) {k : Nat} (hkL : k < L) (hl : ¬ V 3 h < 0) : zLease p o k V 3 h = V 3 h ∧ zLease p o k V 4 h = V 4 h := by
  unfold zLease
  split
  · exact ⟨rfl, rfl⟩
  split
  · split
    · next c =>
      have hne : h ≠ zct (p (5 + k) 0) := fun e => hl (by rw [e]; exact c.1)
      exact ⟨by rw [zOver_at (by decide), if_neg (by omega), if_neg (by omega)], by rw [zOver_at (by decide), if_neg (by omega), if_neg (by omega)]⟩
    · exact ⟨by rw [zu_o (by decide)], by rw [zu_o (by decide)]⟩
  · exact ⟨rfl, rfl⟩
theorem zLet_4 {k : Nat} : zLet p o k V 4 = V 4 := by
  unfold zLet
  split
  · rfl
  split
  · rfl
  · exact zWrite_g (by decide) (by decide) (by decide) (by decide)
theorem zMid_34 (hk : zPk p N L T) (hl : ¬ W 3 h < 0) : (zMid p o W r).1 3 h = W 3 h ∧ (zMid p o W r).1 4 h = W 4 h := by
  have eL : zct (p 0 2) = L := by rw [hk.2.2.1]; exact zct_n (by have := hk.2.2.2.1; omega)
  unfold zMid
  rw [eL]
  have w1 : zit (zLease p o) L W 3 h = W 3 h ∧ zit (zLease p o) L W 4 h = W 4 h := zit_wf (fun _ V => V 3 h = W 3 h ∧ V 4 h = W 4 h) (fun k V hkL q => by
    have := zLease_let (o := o) (h := h) hk hkL (V := V) (by rw [q.1]; exact hl)
    exact ⟨this.1.trans q.1, this.2.trans q.2⟩) ⟨rfl, rfl⟩
  generalize zit (zLease p o) L W = V1 at w1
  have w2 : zit (zLet p o) (zct (p 0 3)) V1 3 h = W 3 h ∧ zit (zLet p o) (zct (p 0 3)) V1 4 h = W 4 h := zit_wf (fun _ V => V 3 h = W 3 h ∧ V 4 h = W 4 h) (fun k V _ q => ⟨by rw [zLet_3]; exact q.1, by rw [zLet_4]; exact q.2⟩) w1
  generalize zit (zLet p o) (zct (p 0 3)) V1 = V2 at w2
  have w3 : zit (zFind p o) (zct (p 0 3)) V2 3 h = W 3 h ∧ zit (zFind p o) (zct (p 0 3)) V2 4 h = W 4 h := zit_wf (fun _ V => V 3 h = W 3 h ∧ V 4 h = W 4 h) (fun k V _ q => ⟨by rw [zFind_3]; exact q.1, by rw [zFind_g (by decide) (by decide) (by decide)]; exact q.2⟩) w2
  split
  · exact ⟨rfl, rfl⟩
  split
  · exact w2
  split
  · exact w2
  · exact w3
theorem zEnds_h {g : Nat} (hg : g = 3 ∨ g = 4) : ∀ n : Nat, h < n → ∃ V', V' 3 h = V 3 h ∧ V' 4 h = V 4 h ∧ zit (zEnd1 p o) n V g h = zEnd1 p o h V' g h := by
  intro n
  induction n with
  | zero => intro q; omega
  | succ n ih =>
    intro q
    show ∃ V', V' 3 h = V 3 h ∧ V' 4 h = V 4 h ∧ zEnd1 p o n (zit (zEnd1 p o) n V) g h = zEnd1 p o h V' g h
    by_cases e : h = n
    · subst e
      exact ⟨zit (zEnd1 p o) h V, zEnds_k (by omega) h h (by omega), zEnds_k (by omega) h h (by omega), rfl⟩
    · rw [zEnd1_k hg e]
      exact ih (by omega)
theorem zDay_left {q : Nat} (hk : zPk p N L T) (hh : h < N) (ht : t < 100) (hq : q < 100) (e3 : W 3 h = nI t) (e4 : W 4 h = nI (q + 1)) : (q = 0 → (zDay p o W r).1 3 h = -2) ∧ (0 < q → (zDay p o W r).1 3 h = nI t ∧ (zDay p o W r).1 4 h = nI q) := by
  have eN : zct (p 0 1) = N := by rw [hk.1]; exact zct_n (by have := hk.2.1; omega)
  have hl : ¬ W 3 h < 0 := by rw [e3]; exact nI_pos (by omega)
  obtain ⟨m3', m4'⟩ := zMid_34 (o := o) (r := r) hk hl
  unfold zDay
  dsimp only
  rw [eN]
  generalize (zMid p o W r).1 = M at m3' m4'
  rw [e3] at m3'
  rw [e4] at m4'
  constructor
  · intro q0
    subst q0
    rw [zu_o (by decide)]
    obtain ⟨V', v3, v4, e⟩ := zEnds_h (p := p) (o := o) (V := M) (h := h) (g := 3) (by omega) N hh
    rw [e]
    unfold zEnd1
    rw [v3, v4, m3', m4', if_neg (nI_pos (by omega)), np, if_neg (by decide), zBack_3]
    exact if_pos rfl
  · intro q0
    constructor
    · rw [zu_o (by decide)]
      obtain ⟨V', v3, v4, e⟩ := zEnds_h (p := p) (o := o) (V := M) (h := h) (g := 3) (by omega) N hh
      rw [e]
      unfold zEnd1
      rw [v3, v4, m3', m4', if_neg (nI_pos (by omega)), np, if_pos (qgt_0 q0 (by omega)), zu_o (by decide), v3, m3']
    · rw [zu_o (by decide)]
      obtain ⟨V', v3, v4, e⟩ := zEnds_h (p := p) (o := o) (V := M) (h := h) (g := 4) (by omega) N hh
      rw [e]
      unfold zEnd1
      rw [v3, v4, m3', m4', if_neg (nI_pos (by omega)), np, if_pos (qgt_0 q0 (by omega)), zu_eq]
theorem zDays_left {n : Nat} (hk : zPk p N L T) (hh : h < N) (ht : t < 100) (hn : n < 100) (e3 : W 3 h = nI t) (e4 : W 4 h = nI n) : ∀ k : Nat, k ≤ n → (k < n → (zDays p o k W r).1 3 h = nI t ∧ (zDays p o k W r).1 4 h = nI (n - k)) ∧ (k = n → 0 < n → (zDays p o k W r).1 3 h = -2) := by
  intro k
  induction k with
  | zero => intro _; exact ⟨fun _ => ⟨e3, e4⟩, fun q1 q2 => by omega⟩
  | succ k ih =>
    intro hkn
    obtain ⟨a1, a2⟩ := (ih (by omega)).1 (by omega)
    have dl := zDay_left (o := o) (r := (zDays p o k W r).2) (q := n - k - 1) hk hh ht (by omega) a1 (by rw [a2]; congr 1; omega)
    refine ⟨fun q => ?_, fun q _ => ?_⟩
    · have := dl.2 (by omega)
      refine ⟨this.1, ?_⟩
      have e := this.2
      rw [show n - k - 1 = n - (k + 1) by omega] at e
      exact e
    · exact dl.1 (by omega)
end ZP
theorem T_free {d pl dr : Nat} {cp cw rp : Option Nat} {ia : Nat → Nat → Int32} {la : Nat → Nat → Int64} {Kc : Option Value → zHP → Prop} {Km : Option Value → Option Value → zHP → Prop} {x1 : Int32} (hI : zInv pl dr ia la) (hc : ∀ v hp, zWM (d + 400) 203 [.ref 127, .int x1] hp (Km v) → Kc v hp) (hm : zEndK ia Km) : zWM (d + 400) 94 [.ref 0, .int x1] (ia, la, zRA pl dr cp cw rp) Kc := by
  have fin := zfin hI hm
  obtain ⟨i1, i2, i3, i4, i5, i6, i7, p, N, L, T, D, W, r, hC, hM, hDe, hNo⟩ := hI
  have hN6 : N ≤ 6 := hC.2.1.2.1
  have hT12 : T ≤ 12 := hC.2.1.2.2.2.2.2.1
  have hR := hC.2.2.1
  have hf := zC_f hC
  have hR2 : zPR p (zu ia 127 0 0) N L T := zPR_i (fun c h1 h2 => zu_o (by omega)) hR
  have hl2 : zHas N 0 W r (zu ia 127 0 0) := zHas_fr (la := la) (lb := la) (by decide) (zFr_0 zFr_r) (zC_0 hC)
  have hD98 : D ≤ 9800 := hC.2.2.2.1
  rw [e94, b94_0, S_isP i1 hC, kS, b94_5]
  rcases zpers x1 (N := N) (by omega) with h1 | ⟨h, hh, rfl, hn1⟩
  · rw [if_pos h1, if_pos rfl]
    refine hc _ _ ?_
    rw [e203, b203_0, S_isM hR2, kS, b203_10, if_pos h1, if_neg (fun q => q rfl)]
    exact fin _ _ _ _ _ _ _ (zFr_0 zFr_r) rfl
  rw [if_neg hn1, if_neg (by decide), zg (by omega) (by omega), zcln (by omega), show ia 76 = W 4 from zC_W hC (g := 4) (by omega)]
  refine hc _ _ ?_
  rw [e203, b203_0, S_isM hR2, kS, b203_10, if_neg hn1, if_pos (by decide)]
  refine Eq.mpr (S_copies (t := 1) (a := 0) (by omega) (by omega) (by omega) hl2) ?_
  rw [kN, b203_21]
  have ho : ∃ a, a ≤ 100 ∧ (fun i => if i = 3 then 1 else if i = 4 then p 28 0 else if i = 5 then -1 else (0 : Int32)) 4 = nI a := hC.2.1.2.2.2.2.2.2.2.2.2.1
  have hO : zOp p (fun i => if i = 3 then 1 else if i = 4 then p 28 0 else if i = 5 then -1 else (0 : Int32)) (zu ia 127 0 0) 0 := zOp_b (b := 1) rfl rfl rfl rfl rfl (by rw [zu_k (by decide)]; exact hC.2.2.2.2.2.2.2.2.1) (by rw [zu_k (by decide)]; exact hC.2.2.2.2.2.2.2.2.2.1) (by rw [zu_k (by decide)]; exact hC.2.2.2.2.2.2.2.2.2.2) ⟨fun _ => rfl, fun q => absurd rfl q⟩
  generalize (fun i => if i = 3 then 1 else if i = 4 then p 28 0 else if i = 5 then -1 else (0 : Int32)) = o at ho hO
  have stop : ∀ (k : Nat) (X : Nat → Nat → Int32) ua lu r', k ≤ 199 → X 3 h < 0 → W 4 h = nI k → zFr ia la (zPM N 1 X r' ua) lu → zWP (d + 400) 203 23 [some (.ref 127), some (.int (nI h)), some (.int (nI k))] [] (zPM N 1 X r' ua, lu, zRA pl dr cp cw rp) (Km (some (.int (W 4 h)))) := by
    intro k X ua lu r' hk hX e4 hfr
    rw [b203_23, if_neg (show ¬ 199 < nI k from nI_nlt (a := 199) (by omega) (by omega))]
    refine Eq.mpr (S_isLetM (s := 1) (by omega) (by omega)) ?_
    rw [if_pos hX, kS, b203_36, if_neg (fun q => q rfl), e4]
    exact fin _ _ _ _ _ _ _ hfr rfl
  rcases hf.1.2.1 h hh with ⟨e3, e4⟩ | ⟨t, n, ht, hn0, hn, e3, e4⟩
  · exact stop 0 W _ la r (by omega) (by rw [e3]; decide) e4 (zFr_PM (zFr_0 zFr_r))
  · have dl := fun k => zDays_left (o := o) (r := r.toInt64) hC.2.1 hh (show t < 100 by omega) hn e3 e4 k
    refine zlpI (fun i => ∀ ua lu r', zSc (zu ia 127 0 0) ua → zL7 la lu → r'.toInt64 = (zDays p o i W r.toInt64).2 → zWP (d + 400) 203 23 [some (.ref 127), some (.int (nI h)), some (.int (nI i))] [] (zPM N 1 (zDays p o i W r.toInt64).1 r' ua, lu, zRA pl dr cp cw rp) (Km (some (.int (W 4 h))))) n ?_ ?_ (zu ia 127 0 0) la r (zSc_r _) (zL7_r _) rfl
    · intro i hi ih ua lu r' h1 h2 h3
      have li := ((dl i (by omega)).1 hi).1
      rw [b203_23, if_neg (show ¬ 199 < nI i from nI_nlt (a := 199) (by omega) (by omega))]
      refine Eq.mpr (S_isLetM (s := 1) (by omega) (by omega)) ?_
      rw [if_neg (by rw [li]; exact nI_pos (by omega)), kS, b203_36, if_pos (by decide)]
      refine S_passes (s := 1) (bn := 0) (D := D + i) (by omega) hC.2.1 (zPR_sc h1 hR2) (zOp_sc h1 hO) (by omega) (zDays_wf hC.2.1 ho hf i (by omega)) (fun ia2 la2 r2 h4 h5 h6 => ?_)
      rw [kN, b203_47, ns]
      rw [h3] at h6 ⊢
      exact ih ia2 la2 r2 (zSc_t h1 h4) (zL7_t h2 h5) h6
    · intro ua lu r' h1 h2 h3
      exact stop n _ ua lu r' (by omega) (by rw [(dl n (by omega)).2 rfl hn0]; decide) e4 (zFr_PM (zFr_7 (zFr_sc (zFr_0 zFr_r) h1) h2))
theorem T_tried {d pl dr : Nat} {cp cw rp : Option Nat} {ia : Nat → Nat → Int32} {la : Nat → Nat → Int64} {Kc : Option Value → zHP → Prop} {Km : Option Value → Option Value → zHP → Prop} {x1 x2 x3 : Int32} (hI : zInv pl dr ia la) (hc : ∀ v hp, zWM (d + 400) 234 [.ref 127, .int x1, .int x2, .int x3] hp (Km v) → Kc v hp) (hm : zEndK ia Km) : zWM (d + 400) 116 [.ref 0, .int x1, .int x2, .int x3] (ia, la, zRA pl dr cp cw rp) Kc := by
  have fin := zfin hI hm
  obtain ⟨i1, i2, i3, i4, i5, i6, i7, p, N, L, T, D, W, r, hC, hM, hDe, hNo⟩ := hI
  have hN6 : N ≤ 6 := hC.2.1.2.1
  have hT12 : T ≤ 12 := hC.2.1.2.2.2.2.2.1
  have hR := hC.2.2.1
  have hf := zC_f hC
  have pll := zIsP_lt i1
  have el : la 72 1 = r.toInt64 := hC.2.2.2.2.2.2.2.1
  have hD98 : D ≤ 9800 := hC.2.2.2.1
  have pre : ∀ (K : Option Value → zHP → Prop) (sa : Nat → Nat → Int32) (lb : Nat → Nat → Int64) cp cw, zPR p (zu sa 127 0 0) N L T → zWM (d + 400) 234 [.ref 127, .int x1, .int x2, .int x3] (sa, lb, zRA pl dr cp cw rp) K = zWP (d + 400) 234 36 [some (.ref 127), some (.int x1), some (.int x2), some (.int x3), none] [.int (if x1 = 2 then (if x2 < 0 ∨ nI N ≤ x2 then 0 else 1) else (if x1 < 0 ∨ 4 < x1 ∨ ¬ x2 = 0 then 0 else 1))] (zu sa 127 0 0, lb, zRA pl dr cp cw rp) K := by
    intro K sa lb cp cw hR2
    rw [e234, b234_0, S_isM hR2, kS, b234_15, b234_35]
    by_cases c1 : x1 = 2
    · rw [if_neg (fun q => q c1), if_pos c1]
    · rw [if_pos c1, if_neg c1]
      by_cases c2 : x1 < 0
      · rw [if_pos c2, if_pos (Or.inl c2)]
      · rw [if_neg c2]
        by_cases c3 : 4 < x1
        · rw [if_pos c3, if_pos (Or.inr (Or.inl c3))]
        · rw [if_neg c3]
          by_cases c4 : x2 = 0
          · rw [if_neg (fun q => q c4), if_neg (fun q => q.elim c2 (fun q => q.elim c3 (fun q => q c4)))]
          · rw [if_pos c4, if_pos (Or.inr (Or.inr c4))]
  have hR2 : zPR p (zu ia 127 0 0) N L T := zPR_i (fun c h1 h2 => zu_o (by omega)) hR
  have fin2 : ∀ v v2 : Option Value, v2 = v → Km v v2 (zu ia 127 0 0, la, zRA pl dr cp cw rp) := fun v v2 e => fin v v2 _ _ _ _ _ (zFr_0 zFr_r) e
  generalize hg : (if x1 = 2 then (if x2 < 0 ∨ nI N ≤ x2 then (0 : Int32) else 1) else (if x1 < 0 ∨ 4 < x1 ∨ ¬ x2 = 0 then 0 else 1)) = g at pre
  have bad : ∀ K, (g = 0 ∨ x3 < 0 ∨ 200 < x3) → zWM (d + 400) 234 [.ref 127, .int x1, .int x2, .int x3] (ia, la, zRA pl dr cp cw rp) K = K (some (.int (-1))) (zu ia 127 0 0, la, zRA pl dr cp cw rp) := by
    intro K hb
    rw [pre _ _ _ _ _ hR2, b234_36]
    split
    · rfl
    split
    · rfl
    split
    · next a1 a2 a3 => exact absurd hb (fun z => z.elim a1 (fun z => z.elim a2 (fun z => Int32.not_lt.mpr a3 z)))
    · rfl
  have bf : ∀ v2 : Option Value, (g = 0 ∨ x3 < 0 ∨ 200 < x3) → Kc (some (.int (-1))) (ia, la, zRA pl dr cp cw rp) := fun _ hb => hc _ _ (by rw [bad _ hb]; exact fin2 _ _ rfl)
  rw [e116, b116_0]
  by_cases c1 : x1 < 0
  · rw [if_pos c1]
    refine bf none (Or.inl ?_)
    rw [← hg, if_neg (by intro q; rw [q] at c1; exact absurd c1 (by decide)), if_pos (Or.inl c1)]
  rw [if_neg c1]
  by_cases c2 : 4 < x1
  · rw [if_pos c2]
    refine bf none (Or.inl ?_)
    rw [← hg, if_neg (by intro q; rw [q] at c2; exact absurd c2 (by decide)), if_pos (Or.inr (Or.inl c2))]
  rw [if_neg c2]
  by_cases c3 : x3 < 0
  · rw [if_pos c3]; exact bf none (Or.inr (Or.inl c3))
  rw [if_neg c3]
  by_cases c4 : 200 < x3
  · rw [if_neg (Int32.not_le.mpr c4)]; exact bf none (Or.inr (Or.inr c4))
  rw [if_pos (Int32.not_lt.mp c4), S_isP i1 hC, kS, b116_32]
  by_cases cg : g = 0
  · have e : ∀ A : Prop, (if ¬ x1 = 2 then (if x2 = 0 then A else Kc (some (.int (-1))) (ia, la, zRA pl dr cp cw rp)) else (if ¬ (if x2 < 0 ∨ nI N ≤ x2 then (0 : Int32) else 1) = 0 then A else Kc (some (.int (-1))) (ia, la, zRA pl dr cp cw rp))) = Kc (some (.int (-1))) (ia, la, zRA pl dr cp cw rp) := by
      intro A
      rw [cg] at hg
      by_cases q : x1 = 2
      · rw [if_neg (fun z => z q)]
        rw [if_pos q] at hg
        rw [hg, if_neg (fun z => z rfl)]
      · rw [if_pos q]
        rw [if_neg q] at hg
        by_cases q2 : x2 = 0
        · rw [if_neg (fun z => z.elim c1 (fun z => z.elim c2 (fun z => z q2)))] at hg
          exact absurd hg (by decide)
        · rw [if_neg q2]
    rw [e]
    exact bf none (Or.inl cg)
  have e44 : ∀ A : Prop, (if ¬ x1 = 2 then (if x2 = 0 then A else Kc (some (.int (-1))) (ia, la, zRA pl dr cp cw rp)) else (if ¬ (if x2 < 0 ∨ nI N ≤ x2 then (0 : Int32) else 1) = 0 then A else Kc (some (.int (-1))) (ia, la, zRA pl dr cp cw rp))) = A := by
    intro A
    by_cases q : x1 = 2
    · rw [if_neg (fun z => z q)]
      rw [if_pos q] at hg
      rw [hg, if_pos cg]
    · rw [if_pos q]
      rw [if_neg q] at hg
      by_cases q2 : x2 = 0
      · rw [if_pos q2]
      · rw [if_pos (Or.inr (Or.inr q2))] at hg
        exact absurd hg.symm cg
  rw [e44]
  obtain ⟨n, hn, rfl⟩ := zinx (n := 200) c3 200 (by decide) (Int32.not_lt.mp c4)
  have eb : zWP (d + 400) 116 44 [some (.ref 0), some (.int x1), some (.int x2), some (.int (nI n))] [] (ia, la, zRA pl dr cp cw rp) Kc = zWM (d + 399) 92 [.ref 0, .int (if x1 = 0 then 2 else if x1 = 1 then 3 else 1)] (ia, la, zRA pl dr cp cw rp) (zK (d + 400) 116 66 [some (.ref 0), some (.int x1), some (.int x2), some (.int (nI n))] [] Kc) := by
    rw [b116_44]
    by_cases q : x1 = 0
    · rw [if_neg (fun z => z q), if_pos q]
    · rw [if_pos q, if_neg q]
      by_cases q1 : x1 = 1
      · rw [if_neg (fun z => z q1), if_pos q1]
      · rw [if_pos q1, if_neg q1]
  refine Eq.mpr eb ?_
  refine S_try i1 (fun g hg => zC_W hC hg) (fun ia1 V hq f0 fw f3 f4 f5 f6 f7 => ?_)
  rw [kN]
  have e66 : zWP (d + 400) 116 66 [some (.ref 0), some (.int x1), some (.int x2), some (.int (nI n))] [] (ia1, zu la 92 1 (la 72 1), zRA pl dr (some pl) (some 92) rp) Kc = zWM (d + 399) 1 [.ref 102, .int (nI n)] (zu (zu (zu ia1 102 5 (if x1 = 2 then x2 else -1)) 102 6 (if x1 = 3 then 1 else 0)) 102 7 (if x1 = 4 then 1 else 0), zu la 92 1 (la 72 1), zRA pl dr (some pl) (some 92) rp) (zK (d + 400) 116 125 [some (.ref 0), some (.int x1), some (.int x2), some (.int (nI n))] [] Kc) := by
    rw [b116_66, b116_80, b116_80, b116_97, b116_97, b116_97, b116_97, zdrop (Or.inl rfl), zdrop (Or.inr rfl), zdrop (Or.inl rfl), zdrop (Or.inr rfl)]
    by_cases q2 : x1 = 2 <;> by_cases q3 : x1 = 3 <;> by_cases q4 : x1 = 4 <;> simp only [q2, q3, q4, not_true, not_false_eq_true, if_true, if_false] <;> (first | rfl | (exfalso; rw [q2] at q3; exact absurd q3 (by decide)) | (exfalso; rw [q2] at q4; exact absurd q4 (by decide)) | (exfalso; rw [q3] at q4; exact absurd q4 (by decide)))
  rw [e66]
  generalize hia2 : zu (zu (zu ia1 102 5 (if x1 = 2 then x2 else -1)) 102 6 (if x1 = 3 then 1 else 0)) 102 7 (if x1 = 4 then 1 else 0) = ia2
  have g0 : ∀ c, c ≠ 102 → ia2 c = ia1 c := fun c h => by rw [← hia2, zu_o h, zu_o h, zu_o h]
  have g3 : ia2 102 3 = if x1 = 0 then 2 else if x1 = 1 then 3 else 1 := by rw [← hia2, zu_k (by decide), zu_k (by decide), zu_k (by decide), f3]
  have g4 : ia2 102 4 = ia2 (pl + 28) 0 := by rw [← hia2, zu_k (by decide), zu_k (by decide), zu_k (by decide), f4, zu_o (by omega), zu_o (by omega), zu_o (by omega), f0 _ (by omega)]
  have g5 : ia2 102 5 = if x1 = 2 then x2 else -1 := by rw [← hia2, zu_k (by decide), zu_k (by decide), zu_eq]
  have g6 : ia2 102 6 = if x1 = 3 then 1 else 0 := by rw [← hia2, zu_k (by decide), zu_eq]
  have g7 : ia2 102 7 = if x1 = 4 then 1 else 0 := by rw [← hia2, zu_eq]
  have hP : ∀ g, g < 33 → (fun g => ia2 (pl + g)) g = p g := fun g hg => by show ia2 (pl + g) = p g; rw [g0 _ (by omega), f0 _ (by omega)]; exact hC.1 g hg
  have hPk := zPk_e hP hC.2.1
  have ho : ∃ a, a ≤ 100 ∧ ia2 102 4 = nI a := by rw [g4]; exact hPk.2.2.2.2.2.2.2.2.2.1
  have hVP : zWf (fun g => ia2 (pl + g)) N T D V := zWf_q hN6 hq (zWf_e hP hf)
  refine S_play2 (w := 92) (W := V) (by omega) (Or.inr (Or.inr rfl)) i1 (fun g hg => by rw [g0 _ (by omega)]; exact fw g hg) hPk (zTd_ten hVP.1.2.1) (fun la2 h5 h6 => ?_)
  rw [zu_eq, el] at h6 ⊢
  have hXf : zWf (fun g => ia2 (pl + g)) N T (D + n) (zDays (fun g => ia2 (pl + g)) (ia2 102) n V r.toInt64).1 := zDays_wf hPk ho hVP n (by omega)
  generalize hX : zDays (fun g => ia2 (pl + g)) (ia2 102) n V r.toInt64 = X at h6 hXf ⊢
  rw [kN, b116_125, S_psum (W := X.1) (Or.inr (Or.inr rfl)) (zPW_g (g := 1) (by omega)), kS, b116_132, zps_m2 hN6 (fun i h1 h2 => (hXf.1.2.2.1 i h1 h2).1)]
  have l72 : la2 72 = la 72 := by rw [h5 72 (by decide) (by decide) (by decide), zu_o (by decide)]
  have l82 : la2 82 = la 82 := by rw [h5 82 (by decide) (by decide) (by decide), zu_o (by decide)]
  have frC : zFr ia la (zPW 92 X.1 ia2) la2 := by
    refine ⟨zFG_PW (fun c k h1 h2 => zgr_0 h1 (by omega)) (fun c k q => ?_), l72, l82⟩
    by_cases e : c < 92 ∨ 102 < c
    · rw [g0 c (by omega), f0 c e]
    · exact absurd (zgr_0 (by omega) (by omega)) q
  have frM : zFr ia la (zu (zPW 92 X.1 ia2) 127 0 0) la2 := zFr_0 frC
  have hs0 : zHas N 0 W r (zu (zPW 92 X.1 ia2) 127 0 0) := zHas_fr (by decide) frM (zC_0 hC)
  have hRM : zPR p (zu (zPW 92 X.1 ia2) 127 0 0) N L T := (zCore_fr i1 frM hC).2.2.1
  have t49 := frM.1 127 49 (by decide)
  have t50 := frM.1 127 50 (by decide)
  have t51 := frM.1 127 51 (by decide)
  refine hc _ _ ?_
  rw [pre _ _ _ _ _ hRM, b234_36, if_neg cg, if_neg c3, if_pos (Int32.not_lt.mp c4)]
  refine Eq.mpr (S_copies (t := 1) (a := 0) (by omega) (by omega) (by omega) hs0) ?_
  rw [zPM_v (zWEq_vis hN6 hq), kN, b234_62]
  have e62 : ∀ K : Option Value → zHP → Prop, (if ¬ x1 = 0 then zWM (d + 399) 186 [.ref 127, .int (nI n)] (zu (zu (zPM N 1 V r (zu (zPW 92 X.1 ia2) 127 0 0)) 127 49 x1) 127 50 x2, la2, zRA pl dr (some pl) (some 92) rp) K else zWM (d + 399) 186 [.ref 127, .int (nI n)] (zu (zu (zPM N 1 V r (zu (zPW 92 X.1 ia2) 127 0 0)) 127 49 5) 127 50 x2, la2, zRA pl dr (some pl) (some 92) rp) K) = zWM (d + 399) 186 [.ref 127, .int (nI n)] (zPM N 1 V r (zu (zu (zu (zPW 92 X.1 ia2) 127 0 0) 127 49 (if x1 = 0 then 5 else x1)) 127 50 x2), la2, zRA pl dr (some pl) (some 92) rp) K := by
    intro K
    rw [zPM_127, zPM_127, zPM_127, zPM_127]
    by_cases q : x1 = 0
    · rw [if_neg (fun z => z q), if_pos q]
    · rw [if_pos q, if_neg q]
  refine Eq.mpr (e62 _) ?_
  generalize hta : zu (zu (zu (zPW 92 X.1 ia2) 127 0 0) 127 49 (if x1 = 0 then 5 else x1)) 127 50 x2 = ta
  have ta_o : ∀ c k, ¬ (c = 127 ∧ (k = 49 ∨ k = 50)) → ta c k = zu (zPW 92 X.1 ia2) 127 0 0 c k := fun c k h => by rw [← hta, zu_at, if_neg (by omega), zu_at, if_neg (by omega)]
  have ta49 : ta 127 49 = if x1 = 0 then 5 else x1 := by rw [← hta, zu_k (by decide), zu_eq]
  have ta50 : ta 127 50 = x2 := by rw [← hta, zu_eq]
  have ta51 : ta 127 51 = -1 := by rw [ta_o _ _ (by omega), t51]; exact hC.2.2.2.2.2.2.2.2.2.2
  have hRt : zPR p ta N L T := zPR_i (fun c h1 h2 => by funext k; exact ta_o c k (by omega)) hRM
  have hO : zOp (fun g => ia2 (pl + g)) (ia2 102) ta 0 := by
    obtain ⟨j, hj, rfl⟩ := zinx (n := 4) c1 4 (by decide) (Int32.not_lt.mp c2)
    refine ⟨?_, ?_, ?_, ?_, ?_, ?_, ?_⟩
    · rw [ta49, g6]
      rcases (show j = 0 ∨ j = 1 ∨ j = 2 ∨ j = 3 ∨ j = 4 by omega) with e | e | e | e | e <;> subst e <;> decide
    · rw [ta49, g7]
      rcases (show j = 0 ∨ j = 1 ∨ j = 2 ∨ j = 3 ∨ j = 4 by omega) with e | e | e | e | e <;> subst e <;> decide
    · rw [ta51, if_pos rfl]; exact g4
    · intro m hm6
      rw [ta49, ta50, g5]
      by_cases q : nI j = 2
      · rw [if_pos q, if_neg (by rw [q]; decide)]
        exact ⟨fun z => ⟨q, z⟩, fun z => z.2⟩
      · rw [if_neg q]
        refine ⟨fun z => absurd z (fun z => nI_pos (n := m) (by omega) (by rw [z]; decide)), fun z => ?_⟩
        have z1 := z.1
        by_cases q0 : nI j = 0
        · rw [if_pos q0] at z1; exact absurd z1 (by decide)
        · rw [if_neg q0] at z1; exact absurd z1 q
    · rw [ta49, g3]
      rcases (show j = 0 ∨ j = 1 ∨ j = 2 ∨ j = 3 ∨ j = 4 by omega) with e | e | e | e | e <;> subst e <;> decide
    · rw [ta49, g3]
      rcases (show j = 0 ∨ j = 1 ∨ j = 2 ∨ j = 3 ∨ j = 4 by omega) with e | e | e | e | e <;> subst e <;> decide
    · rw [ta49, g3]
      rcases (show j = 0 ∨ j = 1 ∨ j = 2 ∨ j = 3 ∨ j = 4 by omega) with e | e | e | e | e <;> subst e <;> decide
  refine S_goesOn (D := D) (p := fun g => ia2 (pl + g)) (o := ia2 102) (by omega) hPk (zPR_e hP hC.2.1 hRt) hO ho (by omega) hVP (fun ua lu r' h7 h8 h9 => ?_)
  rw [hX, kN, b234_85, zPM_127, zPM_127]
  have hRu : zPR p (zPM N 1 X.1 r' (zu (zu ua 127 49 0) 127 50 (-1))) N L T := zPR_M (zPR_i (fun c h1 h2 => by rw [zu_o (by omega), zu_o (by omega)]) (zPR_sc h7 hRt))
  refine Eq.mpr (S_psumM (s := 1) (W := X.1) (by omega) hN6 zHas_M hRu) ?_
  rw [kS, b234_100]
  have frF : zFr ia la (zu (zu ua 127 49 0) 127 50 (-1)) lu := by
    refine ⟨fun c k q => ?_, by rw [h8 72 (by decide) (by decide)]; exact l72, by rw [h8 82 (by decide) (by decide)]; exact l82⟩
    rw [zu_at]
    by_cases e1 : c = 127 ∧ k = 50
    · rw [if_pos e1, e1.1, e1.2]; exact hC.2.2.2.2.2.2.2.2.2.1.symm
    rw [if_neg e1, zu_at]
    by_cases e2 : c = 127 ∧ k = 49
    · rw [if_pos e2, e2.1, e2.2]; exact hC.2.2.2.2.2.2.2.2.1.symm
    rw [if_neg e2]
    obtain ⟨x, rfl⟩ := h7
    rw [zu_at]
    by_cases e3 : c = 127 ∧ k = 34
    · rw [e3.1, e3.2] at q; exact absurd rfl q
    rw [if_neg e3, ta_o c k (by omega)]
    exact frM.1 c k q
  exact fin _ _ _ _ _ _ _ (zFr_PM frF) rfl
