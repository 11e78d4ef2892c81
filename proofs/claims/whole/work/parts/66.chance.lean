/-! chance -/
section ZP
variable {N L T D : Nat} {p W V : Nat → Nat → Int32} {o : Nat → Int32}
theorem zBk_i (r : Int32) : ∃ r' : Int32, (zBk p o r.toInt64).2 = r'.toInt64 := by
  unfold zBk
  split
  · exact ⟨r, rfl⟩
  split
  · exact ⟨r, rfl⟩
  split
  · exact ⟨r, rfl⟩
  split
  · exact ⟨r, rfl⟩
  split
  · exact ⟨r, rfl⟩
  · exact ⟨_, zdraw1 r⟩
theorem zDay_i (r : Int32) : ∃ r' : Int32, (zDay p o W r.toInt64).2 = r'.toInt64 := by
  unfold zDay zMid
  dsimp only
  split
  · exact ⟨r, rfl⟩
  split
  · exact ⟨r, rfl⟩
  split
  · exact zBk_i r
  · exact zBk_i r
theorem zDays_i (r : Int32) : ∀ n : Nat, ∃ r' : Int32, (zDays p o n W r.toInt64).2 = r'.toInt64 := by
  intro n
  induction n with
  | zero => exact ⟨r, rfl⟩
  | succ n ih =>
    obtain ⟨q, hq⟩ := ih
    show ∃ r' : Int32, (zDay p o (zDays p o n W r.toInt64).1 (zDays p o n W r.toInt64).2).2 = r'.toInt64
    rw [hq]
    exact zDay_i q
end ZP
/-- i runs from the number x: m found enough, and q is the last number -/
def zChn (p W : Nat → Nat → Int32) (n : Nat) (f x : Int32) : Nat → Int32 → Int32 → Prop
  | 0, m, q => m = 0 ∧ q = x
  | i + 1, m, q => ∃ (P : Nat → Nat → Int32) (o : Nat → Int32) (V : Nat → Nat → Int32) (m0 q0 : Int32), zChn p W n f x i m0 q0 ∧ (∀ g, g < 33 → P g = p g) ∧ zWEq W V ∧ (o 3 = 0 ∧ o 4 = P 28 0 ∧ o 5 = -1 ∧ o 6 = 0 ∧ o 7 = 0) ∧ q.toInt64 = (zDays P o n V q0.toInt64).2 ∧ m = if (zDays P o n V q0.toInt64).1 0 13 - W 0 13 < f then m0 else m0 + 1
section ZP
variable {d pl dr N L T D s w : Nat} {cp cw rp : Option Nat} {p ia W V : Nat → Nat → Int32} {o : Nat → Int32} {r q bn x y : Int32} {la : Nat → Nat → Int64} {K : Option Value → zHP → Prop}
theorem S_chL {n : Nat} {x1 x3 x4 x5 x6 : Int32} (hn : n < 100000) (hk : zPk p N L T) (hR : zPR p ia N L T) (hO : zOp p o ia 1) (ho : ∃ a, a ≤ 100 ∧ o 4 = nI a) (hD : D + n ≤ 20000) (hW : zWf p N T D W) (hK : ∀ ia' la' r', zSc ia ia' → zL7 la la' → r'.toInt64 = (zDays p o n W r.toInt64).2 → zWP (d + 12) 233 65 [some (.ref 127), some (.int x1), some (.int (nI n)), some (.int x3), some (.int x4), some (.int x5), some (.int x6), some (.int (nI n))] [] (zPM N 1 (zDays p o n W r.toInt64).1 r' ia', la', zRA pl dr cp cw rp) K) : zWP (d + 12) 233 65 [some (.ref 127), some (.int x1), some (.int (nI n)), some (.int x3), some (.int x4), some (.int x5), some (.int x6), some (.int 0)] [] (zPM N 1 W r ia, la, zRA pl dr cp cw rp) K := by
  refine zlpI (fun i => ∀ ia' la' r', zSc ia ia' → zL7 la la' → r'.toInt64 = (zDays p o i W r.toInt64).2 → zWP (d + 12) 233 65 [some (.ref 127), some (.int x1), some (.int (nI n)), some (.int x3), some (.int x4), some (.int x5), some (.int x6), some (.int (nI i))] [] (zPM N 1 (zDays p o i W r.toInt64).1 r' ia', la', zRA pl dr cp cw rp) K) n ?_ hK ia la r (zSc_r ia) (zL7_r la) rfl
  intro i hi ih ia' la' r' h1 h2 h3
  rw [b233_65, if_neg (nI_nle1 (by omega) (by omega))]
  refine S_passes (s := 1) (bn := 1) (D := D + i) (by omega) hk (zPR_sc h1 hR) (zOp_sc h1 hO) (by omega) (zDays_wf hk ho hW i (by omega)) (fun ia2 la2 r2 h4 h5 h6 => ?_)
  rw [kN, b233_77, ns]
  rw [h3] at h6 ⊢
  exact ih ia2 la2 r2 (zSc_t h1 h4) (zL7_t h2 h5) h6
end ZP
theorem T_chance {d pl dr : Nat} {cp cw rp : Option Nat} {ia : Nat → Nat → Int32} {la : Nat → Nat → Int64} {Kc : Option Value → zHP → Prop} {Km : Option Value → Option Value → zHP → Prop} {x1 x2 x3 : Int32} (hI : zInv pl dr ia la) (hc : ∀ v hp, zWM (d + 400) 233 [.ref 127, .int x1, .int x2, .int x3] hp (Km v) → Kc v hp) (hm : zEndK ia Km) : zWM (d + 400) 115 [.ref 0, .int x1, .int x2, .int x3] (ia, la, zRA pl dr cp cw rp) Kc := by
  have fin := zfin hI hm
  obtain ⟨i1, i2, i3, i4, i5, i6, i7, p, N, L, T, D, W, r, hC, hM, hDe, hNo⟩ := hI
  have hN6 : N ≤ 6 := hC.2.1.2.1
  have hT12 : T ≤ 12 := hC.2.1.2.2.2.2.2.1
  have hR := hC.2.2.1
  have hf := zC_f hC
  have pll := zIsP_lt i1
  have hD98 : D ≤ 9800 := hC.2.2.2.1
  have fin2 : ∀ v v2 : Option Value, v2 = v → Km v v2 (zu ia 127 0 0, la, zRA pl dr cp cw rp) := fun v v2 e => fin v v2 _ _ _ _ _ (zFr_0 zFr_r) e
  rw [e115, b115_0]
  by_cases c1 : x1 < 0
  · rw [if_pos c1]
    refine hc _ _ ?_
    rw [e233, b233_0, if_pos c1]
    exact fin2 _ _ rfl
  rw [if_neg c1]
  by_cases c2 : x2 < 1
  · rw [if_pos c2]
    refine hc _ _ ?_
    rw [e233, b233_0, if_neg c1, if_pos c2]
    exact fin2 _ _ rfl
  rw [if_neg c2]
  by_cases c3 : 99 < x2
  · rw [if_pos c3]
    refine hc _ _ ?_
    rw [e233, b233_0, if_neg c1, if_neg c2, if_pos c3]
    exact fin2 _ _ rfl
  rw [if_neg c3]
  by_cases c4 : x3 < 0
  · rw [if_pos c4]
    refine hc _ _ ?_
    rw [e233, b233_0, if_neg c1, if_neg c2, if_neg c3, if_pos c4]
    exact fin2 _ _ rfl
  rw [if_neg c4]
  by_cases c5 : x3 ≤ 12
  case neg =>
    rw [if_neg c5]
    refine hc _ _ ?_
    rw [e233, b233_0, if_neg c1, if_neg c2, if_neg c3, if_neg c4, if_neg c5]
    exact fin2 _ _ rfl
  rw [if_pos c5]
  obtain ⟨n, hn, rfl⟩ := zinx (n := 99) (fun z => c2 (Int32.lt_trans z (by decide))) 99 (by decide) (Int32.not_lt.mp c3)
  -- the reference, backwards
  have mod : ∀ (K : Option Value → zHP → Prop) cp cw (i : Nat) (m q : Int32), i ≤ 10 → zChn p W n x3 x1 i m q → (∀ sa lb a7, zFr ia la sa lb → zWP (d + 400) 233 41 [some (.ref 127), some (.int x1), some (.int (nI n)), some (.int x3), some (.int q), some (.int m), some (.int (nI i)), a7] [] (sa, lb, zRA pl dr cp cw rp) K) → ∀ sa lb a7, zFr ia la sa lb → zWP (d + 400) 233 41 [some (.ref 127), some (.int x1), some (.int (nI n)), some (.int x3), some (.int x1), some (.int 0), some (.int (nI 0)), a7] [] (sa, lb, zRA pl dr cp cw rp) K := by
    intro K cp cw i
    induction i with
    | zero =>
      intro m q _ hq hK sa lb a7 hfr
      obtain ⟨rfl, rfl⟩ := hq
      exact hK sa lb a7 hfr
    | succ i ih =>
      intro m q hi hq hK
      obtain ⟨P, o, V, m0, q0, hch, hP, hV, ⟨o3, o4, o5, o6, o7⟩, hq2, hm2⟩ := hq
      have hPk := zPk_e hP hC.2.1
      have ho : ∃ a, a ≤ 100 ∧ o 4 = nI a := by rw [o4]; exact hPk.2.2.2.2.2.2.2.2.2.1
      have hVP : zWf P N T D V := zWf_q hN6 hV (zWf_e hP hf)
      refine ih m0 q0 (by omega) hch (fun sa lb a7 hfr => ?_)
      have hCs := zCore_fr i1 hfr hC
      rw [b233_41, if_neg (show ¬ (10 : Int32) ≤ nI i from nI_nle1 (a := 10) (by omega) (by omega))]
      refine Eq.mpr (S_copies (t := 1) (a := 0) (by omega) (by omega) (by omega) (zC_0 hCs)) ?_
      rw [zPM_v (zWEq_vis hN6 hV), kN, b233_54, zPM_u148]
      refine S_chL (D := D) (p := P) (o := o) (by omega) hPk (zPR_e hP hC.2.1 hCs.2.2.1) (zOp_b (b := 0) o3 o4 o5 o6 o7 hCs.2.2.2.2.2.2.2.2.1 hCs.2.2.2.2.2.2.2.2.2.1 hCs.2.2.2.2.2.2.2.2.2.2 ⟨fun q => absurd q (by decide), fun _ => rfl⟩) ho (by omega) hVP (fun ua lu r' h7 h8 h9 => ?_)
      rw [← hq2] at h9
      have er := zi64 h9
      subst er
      have hXf := zDays_wf (r := q0.toInt64) hPk ho hVP n (by omega)
      generalize (zDays P o n V q0.toInt64).1 = X at hXf hm2 ⊢
      have hfu : zFr ia la (zPM N 1 X r' ua) lu := zFr_PM (zFr_7 (zFr_sc hfr h7) h8)
      have hs0 : zHas N 0 W r (zPM N 1 X r' ua) := zHas_o (by omega) (zHas_sc h7 (zC_0 hCs))
      rw [b233_65, if_pos (nI_le1 (by omega) (by omega)), S_bits8 zHas_M hXf, kS, b233_102, S_bits8 hs0 hf, kS, b233_111, show zPM N 1 X r' ua 148 1 = r' from zR148 (s := 1), ns, Int32.add_zero]
      by_cases cc : X 0 13 - W 0 13 < x3
      · rw [if_pos cc] at hm2 ⊢
        rw [← hm2]
        exact hK _ _ _ hfu
      · rw [if_neg cc] at hm2 ⊢
        rw [← hm2]
        exact hK _ _ _ hfu
  -- the class
  have cls : ∀ (k i : Nat), i + k = 10 → ∀ sa lb m q cp cw, zFr ia la sa lb → zChn p W n x3 x1 i m q → zWP (d + 400) 115 37 [some (.ref 0), some (.int x1), some (.int (nI n)), some (.int x3), some (.int m), some (.long q.toInt64), none, some (.int (nI i))] [] (sa, lb, zRA pl dr cp cw rp) Kc := by
    intro k
    induction k with
    | zero =>
      intro i hi sa lb m q cp cw hfr hch
      have e10 : i = 10 := by omega
      subst e10
      rw [b115_37, if_pos (by decide)]
      refine hc _ _ ?_
      rw [e233, b233_0, if_neg c1, if_neg c2, if_neg c3, if_neg c4, if_pos c5]
      refine mod _ cp cw 10 m q (by omega) hch (fun sa lb a7 hfr => ?_) _ _ _ (zFr_0 hfr)
      rw [b233_41, if_pos (by decide)]
      exact fin _ _ _ _ _ _ _ hfr rfl
    | succ k ih =>
      intro i hi sa lb m q cp cw hfr hch
      have hCs := zCore_fr i1 hfr hC
      rw [b115_37, if_neg (show ¬ (10 : Int32) ≤ nI i from nI_nle1 (a := 10) (by omega) (by omega))]
      refine S_try i1 (fun g hg => zC_W hCs hg) (fun ia1 V hV f0 fw f3 f4 f5 f6 f7 => ?_)
      have hP : ∀ g, g < 33 → (fun g => ia1 (pl + g)) g = p g := fun g hg => by show ia1 (pl + g) = p g; rw [f0 _ (by omega)]; exact hCs.1 g hg
      have hPk := zPk_e hP hC.2.1
      have o4 : ia1 102 4 = ia1 (pl + 28) 0 := by rw [f4, f0 _ (by omega)]
      have hVP : zWf (fun g => ia1 (pl + g)) N T D V := zWf_q hN6 hV (zWf_e hP hf)
      rw [kN, b115_49]
      refine S_play2 (w := 92) (W := V) (by omega) (Or.inr (Or.inr rfl)) i1 fw hPk (zTd_ten hVP.1.2.1) (fun la2 h5 h6 => ?_)
      rw [zu_eq] at h6 ⊢
      obtain ⟨q', hq'⟩ := zDays_i (p := fun g => ia1 (pl + g)) (o := ia1 102) (W := V) q n
      have hlast : la2 92 1 = q'.toInt64 := by rw [h6, hq']
      have frC : ∀ X, zFr ia la (zPW 92 X ia1) la2 := by
        intro X
        refine ⟨zFG_PW (fun c k h1 h2 => zgr_0 h1 (by omega)) (fun c k z => ?_), ?_, ?_⟩
        · by_cases e : c < 92 ∨ 102 < c
          · rw [f0 c e]; exact hfr.1 c k z
          · exact absurd (zgr_0 (by omega) (by omega)) z
        · rw [h5 72 (by decide) (by decide) (by decide), zu_o (by decide), zu_o (by decide)]; exact hfr.2.1
        · rw [h5 82 (by decide) (by decide) (by decide), zu_o (by decide), zu_o (by decide)]; exact hfr.2.2
      have nxt : ∀ m', m' = (if (zDays (fun g => ia1 (pl + g)) (ia1 102) n V q.toInt64).1 0 13 - W 0 13 < x3 then m else m + 1) → zChn p W n x3 x1 (i + 1) m' q' := fun m' e => ⟨fun g => ia1 (pl + g), ia1 102, V, m, q, hch, hP, hV, ⟨f3, o4, f5, f6, f7⟩, hq'.symm, e⟩
      generalize (zDays (fun g => ia1 (pl + g)) (ia1 102) n V q.toInt64).1 = X at nxt ⊢
      rw [kN, b115_66, hlast, ns, show zPW 92 X ia1 92 = X 0 from zPW_0, zPW_o (show 72 < 92 ∨ _ by omega), f0 72 (by omega), show sa 72 = W 0 from zC_W hCs (g := 0) (by omega)]
      by_cases cc : X 0 13 - W 0 13 < x3
      · rw [if_pos cc] at nxt ⊢
        exact ih (i + 1) (by omega) _ _ _ _ _ _ (frC X) (nxt m rfl)
      · rw [if_neg cc] at nxt ⊢
        exact ih (i + 1) (by omega) _ _ _ _ _ _ (frC X) (nxt (m + 1) rfl)
  exact cls 10 0 (by omega) ia la 0 x1 cp cw zFr_r ⟨rfl, rfl⟩
/-! lessons -/
/-- how many lessons bring what lies d apart within a thousand -/
def zlc : Nat → Nat → Nat
  | 0, _ => 0
  | f + 1, d => if d < 1000 then 0 else zlc f (d - d / 2) + 1
def zdst (a b : Nat) : Nat := if a ≤ 1000 * b then 1000 * b - a else a - 1000 * b
theorem zlc_0 {f d : Nat} (h : d < 1000) : zlc f d = 0 := by
  cases f with
  | zero => rfl
  | succ f => unfold zlc; rw [if_pos h]
theorem zlc_s {f d : Nat} (h : ¬ d < 1000) : zlc (f + 1) d = zlc f (d - d / 2) + 1 := by
  rw [zlc, if_neg h]
theorem zlc_le : ∀ f d : Nat, zlc f d ≤ f := by
  intro f
  induction f with
  | zero => intro d; exact Nat.le_refl _
  | succ f ih =>
    intro d
    unfold zlc
    split
    · omega
    · have := ih (d - d / 2); omega
theorem zab_d {a b : Nat} (ha : a ≤ 99000) (hb : b < 100) : zab (nI a - 1000 * nI b) = nI (zdst a b) ∧ zab (1000 * nI b - nI a) = nI (zdst a b) := by
  have eb : (1000 * nI b : Int32) = nI (1000 * b) := by rw [show (1000 : Int32) = nI 1000 from rfl, pk_mul]
  have neg : ∀ x y : Nat, x < y → y < 2 ^ 30 → 0 - (nI x - nI y) = nI (y - x) := by
    intro x y h h2
    apply zIeq
    · rw [zi_sub] <;> rw [pk_sub_toInt (by omega) (by omega), show (0 : Int32).toInt = 0 by decide] <;> omega
    · omega
  have main : ∀ x y : Nat, x < 2 ^ 29 → y < 2 ^ 29 → zab (nI x - nI y) = nI (if y ≤ x then x - y else y - x) := by
    intro x y hx hy
    unfold zab
    by_cases c : y ≤ x
    · rw [pk_sub c, if_pos (nI_pos' (by omega)), if_pos c]
    · rw [if_neg (Int32.not_le.mpr (pk_sneg (by omega) (by omega))), if_neg c, neg x y (by omega) (by omega)]
  rw [eb]
  constructor
  · rw [main a (1000 * b) (by omega) (by omega)]
    congr 1
    unfold zdst
    by_cases c : 1000 * b ≤ a
    · rw [if_pos c]; split <;> omega
    · rw [if_neg c]; split <;> omega
  · rw [main (1000 * b) a (by omega) (by omega)]
    rfl
theorem T_lessons {d pl dr : Nat} {cp cw rp : Option Nat} {ia : Nat → Nat → Int32} {la : Nat → Nat → Int64} {Kc : Option Value → zHP → Prop} {Km : Option Value → Option Value → zHP → Prop} {x1 : Int32} (hI : zInv pl dr ia la) (hc : ∀ v hp, zWM (d + 400) 215 [.ref 127, .int x1] hp (Km v) → Kc v hp) (hm : zEndK ia Km) : zWM (d + 400) 107 [.ref 0, .int x1] (ia, la, zRA pl dr cp cw rp) Kc := by
  have fin := zfin hI hm
  obtain ⟨i1, i2, i3, i4, i5, i6, i7, p, N, L, T, D, W, r, hC, hM, hDe, hNo⟩ := hI
  have hN6 : N ≤ 6 := hC.2.1.2.1
  have hT12 : T ≤ 12 := hC.2.1.2.2.2.2.2.1
  have hR := hC.2.2.1
  have hf := zC_f hC
  have hR2 : zPR p (zu ia 127 0 0) N L T := zPR_i (fun c h1 h2 => zu_o (by omega)) hR
  have hl2 : zHas N 0 W r (zu ia 127 0 0) := zHas_fr (la := la) (lb := la) (by decide) (zFr_0 zFr_r) (zC_0 hC)
  rw [e107, b107_0, S_isP i1 hC, kS, b107_5]
  rcases zpers x1 (N := N) (by omega) with h1 | ⟨h, hh, rfl, hn1⟩
  · rw [if_pos h1, if_neg (fun q => q rfl)]
    refine hc _ _ ?_
    rw [e215, b215_0, S_isM hR2, kS, b215_10, if_pos h1, if_neg (fun q => q rfl)]
    exact fin _ _ _ _ _ _ _ (zFr_0 zFr_r) rfl
  rw [if_neg hn1, if_pos (by decide)]
  have hb : ∀ j, j < 3 → ∃ b, b < 100 ∧ p 2 (3 * h + j) = nI b := fun j hj => hC.2.1.2.2.2.2.2.2.2.2.2.2.2.2.1 _ (by omega)
  have ha : ∀ j, j < 3 → ∃ a, a ≤ 99000 ∧ W 2 (3 * h + j) = nI a := fun j hj => hf.1.2.2.2 _ (by omega)
  obtain ⟨b0, hb0, eb0⟩ := hb 0 (by omega)
  obtain ⟨b1, hb1, eb1⟩ := hb 1 (by omega)
  obtain ⟨b2, hb2, eb2⟩ := hb 2 (by omega)
  obtain ⟨a0, ha0, ea0⟩ := ha 0 (by omega)
  obtain ⟨a1, ha1, ea1⟩ := ha 1 (by omega)
  obtain ⟨a2, ha2, ea2⟩ := ha 2 (by omega)
  have n33 : nI h * 3 + 3 = nI (3 * h + 3) := by rw [n3', show (3 : Int32) = nI 3 from rfl, nI_add]
  have dle : ∀ a b, a ≤ 99000 → b < 100 → zdst a b ≤ 774 * 2 ^ 7 := fun a b h1 h2 => by unfold zdst; split <;> omega
  have inner : ∀ (f dd c : Nat) (mm i3 : Int32), dd ≤ 774 * 2 ^ f → dd < 100000 → c + f < 100 → ∃ a4, zWP (d + 400) 107 56 [some (.ref 0), some (.int (nI h)), some (.int mm), some (.int i3), some (.int (nI dd)), some (.int (nI c))] [] (ia, la, zRA pl dr cp cw rp) Kc = zWP (d + 400) 107 16 [some (.ref 0), some (.int (nI h)), some (.int (if mm < nI (c + zlc f dd) then nI (c + zlc f dd) else mm)), some (.int (i3 + 1)), a4, some (.int (nI (c + zlc f dd)))] [] (ia, la, zRA pl dr cp cw rp) Kc := by
    intro f
    induction f with
    | zero =>
      intro dd c mm i3 h1 h2 h3
      refine ⟨some (.int (nI dd)), ?_⟩
      rw [b107_56, if_neg (show ¬ (100 : Int32) ≤ nI c from nI_nle1 (a := 100) (by omega) (by omega)), if_pos (show nI dd < 1000 from nI_lt (b := 1000) (by omega) (by omega))]
      rfl
    | succ f ih =>
      intro dd c mm i3 h1 h2 h3
      by_cases cd : dd < 1000
      · refine ⟨some (.int (nI dd)), ?_⟩
        rw [b107_56, if_neg (show ¬ (100 : Int32) ≤ nI c from nI_nle1 (a := 100) (by omega) (by omega)), if_pos (show nI dd < 1000 from nI_lt (b := 1000) (by omega) (by omega)), zlc_0 cd]
        rfl
      · obtain ⟨a4, e⟩ := ih (dd - dd / 2) (c + 1) mm i3 (by rw [Nat.pow_succ] at h1; omega) (by omega) (by omega)
        refine ⟨a4, ?_⟩
        rw [b107_56, if_neg (show ¬ (100 : Int32) ≤ nI c from nI_nle1 (a := 100) (by omega) (by omega)), if_neg (show ¬ nI dd < 1000 from nI_nlt (b := 1000) (by omega) (by omega)), show (2 : Int32) = nI 2 from rfl, pk_div (by omega) (by omega) (by omega), pk_sub (by omega), ns, e, zlc_s cd, show c + 1 + zlc f (dd - dd / 2) = c + (zlc f (dd - dd / 2) + 1) by omega]
  have mx : ∀ a b : Nat, a < 1000 → b < 1000 → (if nI a < nI b then nI b else nI a) = nI (max a b) := by
    intro a b h1 h2
    by_cases c : a < b
    · rw [if_pos (nI_lt c (by omega)), Nat.max_eq_right (by omega)]
    · rw [if_neg (nI_nlt (by omega) (by omega)), Nat.max_eq_left (by omega)]
  have outer : ∀ (j m a b : Nat) a4 a5, j < 3 → m < 1000 → W 2 (3 * h + j) = nI a → p 2 (3 * h + j) = nI b → a ≤ 99000 → b < 100 → ∃ a4' a5', zWP (d + 400) 107 16 [some (.ref 0), some (.int (nI h)), some (.int (nI m)), some (.int (nI (3 * h + j))), a4, a5] [] (ia, la, zRA pl dr cp cw rp) Kc = zWP (d + 400) 107 16 [some (.ref 0), some (.int (nI h)), some (.int (nI (max m (zlc 7 (zdst a b))))), some (.int (nI (3 * h + (j + 1)))), a4', a5'] [] (ia, la, zRA pl dr cp cw rp) Kc := by
    intro j m a b a4 a5 hj hm hwa hpb haa hbb
    have zl := zlc_le 7 (zdst a b)
    obtain ⟨a4', e⟩ := inner 7 (zdst a b) 0 (nI m) (nI (3 * h + j)) (dle a b haa hbb) (by have := dle a b haa hbb; omega) (by omega)
    refine ⟨a4', some (.int (nI (0 + zlc 7 (zdst a b)))), ?_⟩
    rw [b107_16 i1, n33, if_neg (nI_nle1 (by omega) (by omega)), zg (by omega) (by omega), zcln (by omega), hC.1 2 (by omega), show ia 74 = W 2 from zC_W hC (g := 2) (by omega), hwa, hpb]
    have ez := (zab_d haa hbb).2
    unfold zab at ez
    rw [ez]
    refine Eq.trans e ?_
    rw [ns, mx m (0 + zlc 7 (zdst a b)) hm (by omega), Nat.zero_add]
    rfl
  have z0 := zlc_le 7 (zdst a0 b0)
  have z1 := zlc_le 7 (zdst a1 b1)
  have z2 := zlc_le 7 (zdst a2 b2)
  rw [n3']
  obtain ⟨u4, u5, e1⟩ := outer 0 0 a0 b0 none none (by omega) (by omega) ea0 eb0 ha0 hb0
  obtain ⟨v4, v5, e2⟩ := outer 1 (max 0 (zlc 7 (zdst a0 b0))) a1 b1 u4 u5 (by omega) (by omega) ea1 eb1 ha1 hb1
  obtain ⟨w4, w5, e3⟩ := outer 2 (max (max 0 (zlc 7 (zdst a0 b0))) (zlc 7 (zdst a1 b1))) a2 b2 v4 v5 (by omega) (by omega) ea2 eb2 ha2 hb2
  refine Eq.mpr e1 ?_
  rw [e2, e3, b107_16 i1, n33, if_pos (nI_le1 (by omega) (by omega))]
  refine hc _ _ ?_
  rw [e215, b215_0, S_isM hR2, kS, b215_10, if_neg hn1, if_pos (by decide)]
  refine Eq.mpr (S_copies (t := 1) (a := 0) (by omega) (by omega) (by omega) hl2) ?_
  rw [kN, b215_21]
  have taught : ∀ (X : Nat → Nat → Int32) (c0 c1 c2 : Nat) (K : Option Value → zHP → Prop), c0 ≤ 99000 → c1 ≤ 99000 → c2 ≤ 99000 → X 2 (3 * h + 0) = nI c0 → X 2 (3 * h + 1) = nI c1 → X 2 (3 * h + 2) = nI c2 → zWM (d + 399) 214 [.ref 127, .int (nI h)] (zPM N 1 X r (zu ia 127 0 0), la, zRA pl dr cp cw rp) K = K (some (.int (if zdst c0 b0 < 1000 ∧ zdst c1 b1 < 1000 ∧ zdst c2 b2 < 1000 then 1 else 0))) (zPM N 1 X r (zu ia 127 0 0), la, zRA pl dr cp cw rp) := by
    intro X c0 c1 c2 K h0 h1 h2 e0 e1 e2
    have st : ∀ (j c b : Nat) (K : Option Value → zHP → Prop), j < 3 → c ≤ 99000 → b < 100 → X 2 (3 * h + j) = nI c → p 2 (3 * h + j) = nI b → zWP (d + 399) 214 2 [some (.ref 127), some (.int (nI h)), some (.int (nI j))] [] (zPM N 1 X r (zu ia 127 0 0), la, zRA pl dr cp cw rp) K = (if zdst c b < 1000 then zWP (d + 399) 214 2 [some (.ref 127), some (.int (nI h)), some (.int (nI (j + 1)))] [] (zPM N 1 X r (zu ia 127 0 0), la, zRA pl dr cp cw rp) K else K (some (.int 0)) (zPM N 1 X r (zu ia 127 0 0), la, zRA pl dr cp cw rp)) := by
      intro j c b K hj hcc hbb ec ebb
      have a6 : (6 : Int32) + nI h = nI (6 * 1 + h) := by rw [show (6 : Int32) = nI 6 from rfl, nI_add]
      rw [b214_2, if_neg (z3le hj), a6, m3, m3, zg (by omega) (by omega), zg (by omega) (by omega), zcln (by omega), zcln (by omega), zR152 hh hN6 hj, zR_127 (c := 131) (by decide), hR2.2.2.2.2.2.2.2.2.1 _ (by omega), ec, ebb, ns]
      have ez := (zab_d hcc hbb).1
      unfold zab at ez
      rw [ez]
      have := dle c b hcc hbb
      by_cases q : zdst c b < 1000
      · rw [if_pos (show nI (zdst c b) < 1000 from nI_lt (b := 1000) q (by omega)), if_pos q]
      · rw [if_neg (show ¬ nI (zdst c b) < 1000 from nI_nlt (b := 1000) (by omega) (by omega)), if_neg q]
    rw [e214, b214_0]
    refine Eq.trans (st 0 c0 b0 K (by omega) h0 hb0 e0 eb0) ?_
    rw [st 1 c1 b1 K (by omega) h1 hb1 e1 eb1, st 2 c2 b2 K (by omega) h2 hb2 e2 eb2, b214_2, if_pos (show (3 : Int32) ≤ nI (2 + 1) by decide)]
    by_cases q0 : zdst c0 b0 < 1000
    · by_cases q1 : zdst c1 b1 < 1000
      · by_cases q2 : zdst c2 b2 < 1000
        · rw [if_pos q0, if_pos q1, if_pos q2, if_pos ⟨q0, q1, q2⟩]
        · rw [if_pos q0, if_pos q1, if_neg q2, if_neg (fun z => q2 z.2.2)]
      · rw [if_pos q0, if_neg q1, if_neg (fun z => q1 z.2.1)]
    · rw [if_neg q0, if_neg (fun z => q0 z.1)]
  have lstep : ∀ c b, c ≤ 99000 → b < 100 → ∃ c', c' ≤ 99000 ∧ nI c + (1000 * nI b - nI c) / 2 = nI c' ∧ zdst c' b = zdst c b - zdst c b / 2 := by
    intro c b h1 h2
    obtain ⟨c', k1, k2, k3, k4⟩ := zlesson h1 h2
    refine ⟨c', k1, k2, ?_⟩
    unfold zdst
    rcases Nat.le_total c (1000 * b) with q | q
    · have := k3 q; rw [if_pos q, if_pos (by omega)]; omega
    · have := k4 q
      by_cases q2 : c = 1000 * b
      · have := k3 (by omega); rw [if_pos (by omega), if_pos (by omega)]; omega
      · rw [if_neg (show ¬ c ≤ 1000 * b by omega)]
        split <;> omega
  have mlp : ∀ (f k c0 c1 c2 : Nat) (X : Nat → Nat → Int32), c0 ≤ 99000 → c1 ≤ 99000 → c2 ≤ 99000 → X 2 (3 * h + 0) = nI c0 → X 2 (3 * h + 1) = nI c1 → X 2 (3 * h + 2) = nI c2 → zdst c0 b0 ≤ 774 * 2 ^ f → zdst c1 b1 ≤ 774 * 2 ^ f → zdst c2 b2 ≤ 774 * 2 ^ f → k + max (max (max 0 (zlc f (zdst c0 b0))) (zlc f (zdst c1 b1))) (zlc f (zdst c2 b2)) = max (max (max 0 (zlc 7 (zdst a0 b0))) (zlc 7 (zdst a1 b1))) (zlc 7 (zdst a2 b2)) → zWP (d + 400) 215 23 [some (.ref 127), some (.int (nI h)), some (.int (nI k))] [] (zPM N 1 X r (zu ia 127 0 0), la, zRA pl dr cp cw rp) (Km (some (.int (nI (max (max (max 0 (zlc 7 (zdst a0 b0))) (zlc 7 (zdst a1 b1))) (zlc 7 (zdst a2 b2))))))) := by
    intro f
    induction f with
    | zero =>
      intro k c0 c1 c2 X h0 h1 h2 e0 e1 e2 d0 d1 d2 hk
      rw [b215_23, taught X c0 c1 c2 _ h0 h1 h2 e0 e1 e2, if_pos ⟨by omega, by omega, by omega⟩, kS, b215_28, if_pos (by decide)]
      refine fin _ _ _ _ _ _ _ (zFr_PM (zFr_0 zFr_r)) ?_
      have z0 : zlc 0 (zdst c0 b0) = 0 := rfl
      have z1 : zlc 0 (zdst c1 b1) = 0 := rfl
      have z2 : zlc 0 (zdst c2 b2) = 0 := rfl
      rw [z0, z1, z2] at hk
      rw [← hk]
      rfl
    | succ f ih =>
      intro k c0 c1 c2 X h0 h1 h2 e0 e1 e2 d0 d1 d2 hk
      rw [b215_23, taught X c0 c1 c2 _ h0 h1 h2 e0 e1 e2, kS, b215_28]
      by_cases al : zdst c0 b0 < 1000 ∧ zdst c1 b1 < 1000 ∧ zdst c2 b2 < 1000
      · rw [if_pos al, if_pos (by decide)]
        refine fin _ _ _ _ _ _ _ (zFr_PM (zFr_0 zFr_r)) ?_
        rw [zlc_0 al.1, zlc_0 al.2.1, zlc_0 al.2.2] at hk
        rw [← hk]
        rfl
      · rw [if_neg al, if_neg (fun q => q rfl)]
        refine Eq.mpr (S_lesM (s := 1) (p := p) (by omega) hN6 hR2 hh) ?_
        rw [kN, b215_37, ns]
        obtain ⟨c0', k0, l0, m0⟩ := lstep c0 b0 h0 hb0
        obtain ⟨c1', k1, l1, m1⟩ := lstep c1 b1 h1 hb1
        obtain ⟨c2', k2, l2, m2⟩ := lstep c2 b2 h2 hb2
        have p2 : (2 : Nat) ^ (f + 1) = 2 * 2 ^ f := by rw [Nat.pow_succ]; omega
        rw [p2] at d0 d1 d2
        refine ih (k + 1) c0' c1' c2' _ k0 k1 k2 ?_ ?_ ?_ ?_ ?_ ?_ ?_
        · rw [zLes_3, if_pos (by omega), e0, eb0, l0]
        · rw [zLes_3, if_pos (by omega), e1, eb1, l1]
        · rw [zLes_3, if_pos (by omega), e2, eb2, l2]
        · rw [m0]; omega
        · rw [m1]; omega
        · rw [m2]; omega
        · rw [← hk, m0, m1, m2]
          have q : ∀ dd : Nat, (dd < 1000 ∧ zlc (f + 1) dd = 0 ∧ zlc f (dd - dd / 2) = 0) ∨ (¬ dd < 1000 ∧ zlc (f + 1) dd = zlc f (dd - dd / 2) + 1) := by
            intro dd
            by_cases cd : dd < 1000
            · exact Or.inl ⟨cd, zlc_0 cd, zlc_0 (by omega)⟩
            · exact Or.inr ⟨cd, zlc_s cd⟩
          have q0 := q (zdst c0 b0)
          have q1 := q (zdst c1 b1)
          have q2 := q (zdst c2 b2)
          omega
  exact mlp 7 0 a0 a1 a2 W ha0 ha1 ha2 ea0 ea1 ea2 (dle a0 b0 ha0 hb0) (dle a1 b1 ha1 hb1) (dle a2 b2 ha2 hb2) (Nat.zero_add _)
