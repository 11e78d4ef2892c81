/-! wears -/
theorem zBeg_e {P Q V : Nat → Nat → Int32} {N : Nat} (h2 : P 2 = Q 2) (h3 : P 3 = Q 3) : zBeg P N V = zBeg Q N V := by
  funext g k
  unfold zBeg
  rw [h2, h3]
def zGd (k : Nat) (o : Nat → Int32) : Prop := o 3 = 1 ∧ o 4 = nI (10 * k) ∧ o 5 = -1 ∧ o 6 = 0 ∧ o 7 = 0
section ZP
variable {d pl dr N L T D s w m M last : Nat} {cp cw rp : Option Nat} {p ia sa W V P : Nat → Nat → Int32} {t : Nat → Nat} {o : Nat → Int32} {r q bn x y v : Int32} {la lb : Nat → Nat → Int64} {K : Option Value → zHP → Prop}
theorem zOp_g {k : Nat} (hk : k ≤ 10) (hg : zGd k o) (t0 : sa 127 49 = 0) (t1 : sa 127 50 = -1) (t2 : sa 127 51 = nI (10 * k)) : zOp P o sa 0 := by
  obtain ⟨o3, o4, o5, o6, o7⟩ := hg
  refine ⟨?_, ?_, ?_, ?_, ?_, ?_, ?_⟩
  · rw [t0, o6]; exact ⟨fun q => absurd q (by decide), fun q => absurd rfl q⟩
  · rw [t0, o7]; exact ⟨fun q => absurd q (by decide), fun q => absurd rfl q⟩
  · rw [t2, o4, if_neg]
    exact fun z => nI_pos (n := 10 * k) (by omega) (by rw [z]; decide)
  · intro n hn
    rw [o5, t0]
    exact ⟨fun q => absurd q (fun z => nI_pos (n := n) (by omega) (by rw [z]; decide)), fun q => absurd q.1 (by decide)⟩
  · rw [t0]; intro q; exact absurd q (by decide)
  · rw [t0]; intro q; exact absurd q (by decide)
  · intro _ _; rw [o3]; exact ⟨fun _ => rfl, fun q => absurd rfl q⟩
theorem S_agw {k : Nat} (hpl : zIsP pl) (hk10 : k ≤ 10) (hC : zCore pl p N L T D W r ia la) (hn : zNt N m M v t ia) (hfr : zFr ia la sa lb) (h1 : sa 106 1 = nI last) (hl : last ≤ 60) (hc : ∀ j, j < 24 → sa 112 j = if zQs (ia 111) M j = true then 1 else 0)
    (hK0 : ∀ (P : Nat → Nat → Int32) (o : Nat → Int32) (V sa' : Nat → Nat → Int32) lb', (∀ g, g < 33 → P g = p g) → zGd k o → zFt ia M P o (zBeg P N V) (P 28 2).toInt64 last = true → zFr ia la sa' lb' → (∀ c, 102 < c → sa' c = sa c) → K (some (.int 0)) (sa', lb', zRA pl dr (some pl) (some 92) rp))
    (hK1 : ∀ (V ia2 : Nat → Nat → Int32) la2, (∀ g, g < 33 → (fun g => ia2 (pl + g)) g = p g) → zGd k (ia2 102) → zFt ia M (fun g => ia2 (pl + g)) (ia2 102) (zBeg (fun g => ia2 (pl + g)) N V) (ia2 (pl + 28) 2).toInt64 last = false → (∀ c, c < 92 ∨ 102 < c → ia2 c = sa c) → la2 72 = lb 72 → la2 82 = lb 82 → la2 92 1 = (zDays (fun g => ia2 (pl + g)) (ia2 102) last (zBeg (fun g => ia2 (pl + g)) N V) (ia2 (pl + 28) 2).toInt64).2 → K (some (.int 1)) (zPW 92 (zDays (fun g => ia2 (pl + g)) (ia2 102) last (zBeg (fun g => ia2 (pl + g)) N V) (ia2 (pl + 28) 2).toInt64).1 ia2, la2, zRA pl dr (some pl) (some 92) rp)) :
    zWM (d + 20) 121 [.ref 0, .int (nI k)] (sa, lb, zRA pl dr cp cw rp) K := by
  have pll := zIsP_lt hpl
  have hN6 : N ≤ 6 := hC.2.1.2.1
  have hCs := zCore_fr hpl hfr hC
  have hPs : ∀ g, g < 33 → (fun g => sa (pl + g)) g = p g := fun g hg => hCs.1 g hg
  rw [e121, b121_0]
  have bg := S_begin (d := d + 19) (pl := pl) (dr := dr) (cp := cp) (cw := cw) (rp := rp) (K := zK (d + 20) 121 11 [some (.ref 0), some (.int (nI k)), none] [] K) (la := lb) (ia := sa) (V := fun g => sa (92 + g)) (w := 92) (p := pl) (N := N) (L := L) (T := T) (Or.inr (Or.inr rfl)) hpl (zPk_e hPs hC.2.1)
  rw [zPW_s] at bg
  rw [bg, kN, b121_11]
  refine S_cbeg hpl (Or.inr (Or.inr rfl)) (fun ia1 f0 f3 f4 f5 f6 f7 => ?_)
  rw [kN, b121_27]
  have e10 : (10 : Int32) * nI k = nI (10 * k) := by rw [show (10 : Int32) = nI 10 from rfl, pk_mul]
  rw [e10]
  generalize hia2 : zu ia1 102 4 (nI (10 * k)) = ia2
  have g0 : ∀ c, c < 92 ∨ 102 < c → ia2 c = sa c := fun c h => by rw [← hia2, zu_o (by omega), f0 c (by omega), zPW_o (by omega)]
  have gd : zGd k (ia2 102) := ⟨by rw [← hia2, zu_k (by decide)]; exact f3, by rw [← hia2, zu_eq], by rw [← hia2, zu_k (by decide)]; exact f5, by rw [← hia2, zu_k (by decide)]; exact f6, by rw [← hia2, zu_k (by decide)]; exact f7⟩
  have hP : ∀ g, g < 33 → (fun g => ia2 (pl + g)) g = p g := fun g hg => by show ia2 (pl + g) = p g; rw [g0 _ (by omega)]; exact hPs g hg
  have hPk := zPk_e hP hC.2.1
  have ho : ∃ a, a ≤ 100 ∧ ia2 102 4 = nI a := ⟨10 * k, by omega, gd.2.1⟩
  have eB : zBeg (fun g => sa (pl + g)) N (fun g => sa (92 + g)) = zBeg (fun g => ia2 (pl + g)) N (fun g => sa (92 + g)) := zBeg_e (by show sa (pl + 2) = ia2 (pl + 2); rw [g0 _ (by omega)]) (by show sa (pl + 3) = ia2 (pl + 3); rw [g0 _ (by omega)])
  have hw2 : ∀ g, g < 10 → ia2 (92 + g) = zBeg (fun g => ia2 (pl + g)) N (fun g => sa (92 + g)) g := fun g hg => by rw [← hia2, zu_o (by omega), f0 _ (by omega), zPW_g hg, eB, hia2]
  have e28 : sa (pl + 28) 2 = ia2 (pl + 28) 2 := by rw [g0 _ (by omega)]
  rw [e28]
  have hB : zWf (fun g => ia2 (pl + g)) N T 0 (zBeg (fun g => ia2 (pl + g)) N (fun g => sa (92 + g))) := zWf_beg hPk
  have hK1' := hK1 (fun g => sa (92 + g)) ia2
  have hK0' := hK0 (fun g => ia2 (pl + g)) (ia2 102) (fun g => sa (92 + g))
  generalize hBB : zBeg (fun g => ia2 (pl + g)) N (fun g => sa (92 + g)) = B at hK1' hK0' hw2 hB
  generalize hrr : (ia2 (pl + 28) 2).toInt64 = rr at hK1' hK0' ⊢
  have frX : ∀ X lc, lc 72 = lb 72 → lc 82 = lb 82 → zFr ia la (zPW 92 X ia2) lc := by
    intro X lc l1 l2
    refine ⟨zFG_PW (fun c k h1 h2 => zgr_0 h1 (by omega)) (fun c k z => ?_), by rw [l1]; exact hfr.2.1, by rw [l2]; exact hfr.2.2⟩
    by_cases e : c < 92 ∨ 102 < c
    · rw [g0 c e]; exact hfr.1 c k z
    · exact absurd (zgr_0 (by omega) (by omega)) z
  have lp : ∀ (n j : Nat) lc, j + n = last → lc 72 = lb 72 → lc 82 = lb 82 → lc 92 1 = (zDays (fun g => ia2 (pl + g)) (ia2 102) j B rr).2 → zFt ia M (fun g => ia2 (pl + g)) (ia2 102) B rr j = false → zWP (d + 20) 121 40 [some (.ref 0), some (.int (nI k)), some (.int (nI (j + 1)))] [] (zPW 92 (zDays (fun g => ia2 (pl + g)) (ia2 102) j B rr).1 ia2, lc, zRA pl dr (some pl) (some 92) rp) K := by
    intro n
    induction n with
    | zero =>
      intro j lc hj l1 l2 l3 hF
      have ej : j = last := by omega
      subst ej
      rw [b121_40, zPW_o (by omega), g0 106 (by omega), h1, if_pos (nI_lt (by omega) (by omega))]
      exact hK1' lc hP gd hF g0 l1 l2 l3
    | succ n ih =>
      intro j lc hj l1 l2 l3 hF
      rw [b121_40, zPW_o (by omega), g0 106 (by omega), h1, if_neg (nI_nlt (by omega) (by omega))]
      refine S_day (Or.inr (Or.inr rfl)) hpl hPk (zTd_ten (zDays_wf hPk ho hB j (by omega)).1.2.1) (fun lc2 h5 h6 => ?_)
      rw [l3] at h6 ⊢
      show zK (d + 20) 121 58 [some (.ref 0), some (.int (nI k)), some (.int (nI (j + 1)))] [] K none (zPW 92 (zDays (fun g => ia2 (pl + g)) (ia2 102) (j + 1) B rr).1 ia2, lc2, zRA pl dr (some pl) (some 92) rp)
      have l1' : lc2 72 = lb 72 := by rw [h5 72 (by decide) (by decide) (by decide)]; exact l1
      have l2' : lc2 82 = lb 82 := by rw [h5 82 (by decide) (by decide) (by decide)]; exact l2
      have nx := ih (j + 1) lc2 (by omega) l1' l2' h6
      have ft : zFt ia M (fun g => ia2 (pl + g)) (ia2 102) B rr (j + 1) = (zFt ia M (fun g => ia2 (pl + g)) (ia2 102) B rr j || zany (zBd ia M (zDays (fun g => ia2 (pl + g)) (ia2 102) (j + 1) B rr).1 (j + 1)) M) := rfl
      rw [hF, Bool.false_or] at ft
      have big : zFt ia M (fun g => ia2 (pl + g)) (ia2 102) B rr (j + 1) = true → zFt ia M (fun g => ia2 (pl + g)) (ia2 102) B rr last = true := fun z => by
        unfold zFt at z ⊢
        obtain ⟨i, hi, ei⟩ := (zany_iff _ _).mp z
        exact (zany_iff _ _).mpr ⟨i, by omega, ei⟩
      generalize (zDays (fun g => ia2 (pl + g)) (ia2 102) (j + 1) B rr).1 = X at nx ft ⊢
      have oX : ∀ c, 102 < c → zPW 92 X ia2 c = sa c := fun c h => by rw [zPW_o (by omega), g0 c (by omega)]
      rw [kN, b121_58, S_agr (V := X) (ja := sa) hN6 hn (fun c q1 q2 q3 => by
        rw [oX c (by omega)]
        funext i
        refine hfr.1 c i ?_
        have : 107 ≤ c ∧ c ≤ 111 := by omega
        unfold zgr
        rw [if_neg (by omega), if_neg (by omega), if_neg (by omega), if_neg (by omega), if_neg (by omega), if_neg (by omega), if_neg (by omega), if_pos this.2]
        decide) (by rw [oX _ (by omega), hfr.1 106 0 (by decide)]; exact hn.2.1) (fun i hi => by rw [oX _ (by omega)]; exact hc i hi) (zPW_g (g := 2) (by omega)), kS, b121_73]
      by_cases cc : zany (zBd ia M X (j + 1)) M = true
      · rw [if_pos cc, if_neg (fun z => z rfl)]
        exact hK0' _ _ hP gd (big (by rw [ft]; exact cc)) (frX X lc2 l1' l2') oX
      · rw [if_neg cc, if_pos (by decide), ns]
        exact nx (by rw [ft]; simpa using cc)
  have s0 : zPW 92 B ia2 = ia2 := zPW_id hw2
  have fn := lp last 0 (zu lb 92 1 rr) (by omega) (zu_o (by decide)) (zu_o (by decide)) (zu_eq _ _ _ _) rfl
  have z0 : (zDays (fun g => ia2 (pl + g)) (ia2 102) 0 B rr).1 = B := rfl
  rw [z0, s0] at fn
  exact fn
theorem S_fit {k : Nat} (hk10 : k ≤ 10) (hPk : zPk P N L T) (hR : zPR P sa N L T) (hO : zOp P o sa 0) (hg : zGd k o) (hn : zNt N m M v t ia) (h7 : sa 127 57 = nI m) (h8 : sa 127 58 = v) (hs : ∀ c, 162 ≤ c → c ≤ 166 → sa c = ia c) (hc : ∀ j, j < M → sa 167 j = if zOd (ia 111) M M j = true then 1 else 0) (hl : last ≤ 60) (hK : ∀ X r' ua lu, zSc sa ua → zL7 lb lu → K (some (.int (if zFt ia M P o (zBeg P N V) (P 28 2).toInt64 last = true then 0 else 1))) (zPM N 1 X r' ua, lu, zRA pl dr cp cw rp)) : zWM (d + 13) 229 [.ref 127, .int (nI last)] (sa, lb, zRA pl dr cp cw rp) K := by
  have hN6 : N ≤ 6 := hPk.2.1
  have ho : ∃ a, a ≤ 100 ∧ o 4 = nI a := ⟨10 * k, by omega, hg.2.1⟩
  rw [e229, b229_0]
  refine Eq.mpr (S_starts (s := 1) (V := V) (by omega) hPk hR) ?_
  rw [kN, b229_5]
  have hB : zWf P N T 0 (zBeg P N V) := zWf_beg hPk
  generalize zBeg P N V = B at hK hB ⊢
  generalize P 28 2 = r0 at hK ⊢
  have lp : ∀ (n j : Nat) ua lu r', j + n = last → zSc sa ua → zL7 lb lu → r'.toInt64 = (zDays P o j B r0.toInt64).2 → zFt ia M P o B r0.toInt64 j = false → zWP (d + 13) 229 7 [some (.ref 127), some (.int (nI last)), some (.int (nI (j + 1)))] [] (zPM N 1 (zDays P o j B r0.toInt64).1 r' ua, lu, zRA pl dr cp cw rp) K := by
    intro n
    induction n with
    | zero =>
      intro j ua lu r' hj s1 s2 s3 hF
      have ej : j = last := by omega
      subst ej
      rw [b229_7, if_pos (nI_lt (by omega) (by omega))]
      have := hK (zDays P o j B r0.toInt64).1 r' ua lu s1 s2
      rw [hF] at this
      exact this
    | succ n ih =>
      intro j ua lu r' hj s1 s2 s3 hF
      rw [b229_7, if_neg (nI_nlt (by omega) (by omega))]
      refine S_passes (s := 1) (bn := 0) (D := 0 + j) (by omega) hPk (zPR_sc s1 hR) (zOp_sc s1 hO) (by omega) (zDays_wf hPk ho hB j (by omega)) (fun ub lc r2 s4 s5 s6 => ?_)
      rw [s3] at s6 ⊢
      show zK (d + 13) 229 18 [some (.ref 127), some (.int (nI last)), some (.int (nI (j + 1)))] [] K none (zPM N 1 (zDays P o (j + 1) B r0.toInt64).1 r2 ub, lc, zRA pl dr cp cw rp)
      have sc := zSc_t s1 s4
      have nx := ih (j + 1) ub lc r2 (by omega) sc (zL7_t s2 s5) s6
      have ft : zFt ia M P o B r0.toInt64 (j + 1) = (zFt ia M P o B r0.toInt64 j || zany (zBd ia M (zDays P o (j + 1) B r0.toInt64).1 (j + 1)) M) := rfl
      rw [hF, Bool.false_or] at ft
      have big : zFt ia M P o B r0.toInt64 (j + 1) = true → zFt ia M P o B r0.toInt64 last = true := fun z => by
        unfold zFt at z ⊢
        obtain ⟨i, hi, ei⟩ := (zany_iff _ _).mp z
        exact (zany_iff _ _).mpr ⟨i, by omega, ei⟩
      generalize (zDays P o (j + 1) B r0.toInt64).1 = X at nx ft ⊢
      rw [kN, b229_18, S_so (V := X) (ia := ia) hN6 hn (by rw [zSc_k sc (by decide)]; exact h7) (by rw [zSc_k sc (by decide)]; exact h8) (fun c q1 q2 => by rw [zSc_c sc (by omega)]; exact hs c q1 q2) (fun i hi => by rw [zSc_c sc (by decide)]; exact hc i hi), kS, b229_23]
      by_cases cc : zany (zBd ia M X (j + 1)) M = true
      · rw [if_pos cc, if_neg (fun z => z rfl)]
        have := hK X r2 ub lc sc (zL7_t s2 s5)
        rw [if_pos (big (by rw [ft]; exact cc))] at this
        exact this
      · rw [if_neg cc, if_pos (by decide), ns]
        exact nx (by rw [ft]; simpa using cc)
  exact lp last 0 sa lb r0 (by omega) (zSc_r sa) (zL7_r lb) rfl rfl
/-- the wear k agrees or not, by the days of some plan, course and world -/
def zSp (p ia : Nat → Nat → Int32) (N M last k : Nat) (b : Bool) : Prop := ∃ (P : Nat → Nat → Int32) (o : Nat → Int32) (V : Nat → Nat → Int32), (∀ g, g < 33 → P g = p g) ∧ zGd k o ∧ b = !(zFt ia M P o (zBeg P N V) (P 28 2).toInt64 last)
/-- the reference's wears -/
theorem S_wnow {B : Nat → Bool} (hpl : zIsP pl) (hC : zCore pl p N L T D W r ia la) (hn : zNt N m M v t ia) (hfr : zFr ia la sa lb) (hl : zLm (zQs (ia 111) M) t M ≤ 60) (hB : ∀ k, k < 11 → zSp p ia N M (zLm (zQs (ia 111) M) t M) k (B k)) (hK : ∀ ja lu, zFr ia la ja lu → K (some (.int (zit (zbS B) 11 0))) (ja, lu, zRA pl dr cp cw rp)) : zWM (d + 14) 230 [.ref 127] (sa, lb, zRA pl dr cp cw rp) K := by
  have f6 : ∀ c, 162 ≤ c → c ≤ 166 → ∀ ja : Nat → Nat → Int32, (∀ c k, ¬ zgr c k = 0 → ¬ (c = 127 ∧ k = 51) → ja c k = ia c k) → ja c = ia c := fun c q1 q2 ja hj => by
    funext i
    refine hj c i ?_ (by omega)
    unfold zgr
    rw [if_neg (by omega), if_neg (by omega), if_neg (by omega), if_neg (by omega), if_neg (by omega), if_neg (by omega), if_neg (by omega), if_neg (by omega), if_neg (by omega), if_neg (by omega), if_neg (by omega), if_neg (by omega), if_neg (by omega), if_neg (by omega), if_neg (by omega), if_neg (by omega), if_neg (by omega), if_neg (by omega), if_neg (by omega), if_neg (by omega), if_neg (by omega), if_pos q2]
    decide
  have hfa : ∀ c k, ¬ zgr c k = 0 → ¬ (c = 127 ∧ k = 51) → sa c k = ia c k := fun c k z _ => hfr.1 c k z
  refine S_outs (ia := ia) (sa := sa) hn (by rw [hfr.1 127 57 (by decide)]; exact hn.2.2.1) (by rw [hfr.1 127 58 (by decide)]; exact hn.2.2.2.2.1) (fun c q1 q2 => f6 c q1 q2 sa hfa) (fun ja0 j1 j2 => ?_)
  generalize zLm (zQs (ia 111) M) t M = last at *
  have lp : ∀ (n i : Nat) ja lu, i + n = 11 → (∀ c k, ¬ zgr c k = 0 → ¬ (c = 127 ∧ k = 51) → ja c k = ia c k) → lu 72 = la 72 → lu 82 = la 82 → (∀ k, k < M → ja 167 k = if zOd (ia 111) M M k = true then 1 else 0) → zWP (d + 14) 230 123 [some (.ref 127), some (.int (nI last)), some (.int (zit (zbS B) i 0)), some (.int (nI i))] [] (ja, lu, zRA pl dr cp cw rp) K := by
    intro n
    induction n with
    | zero =>
      intro i ja lu hi h1 l1 l2 h2
      have e11 : i = 11 := by omega
      subst e11
      rw [b230_123, if_pos (by decide)]
      refine hK _ _ ⟨fun c k z => ?_, l1, l2⟩
      rw [zu_at]
      by_cases e : c = 127 ∧ k = 51
      · rw [if_pos e, e.1, e.2]; exact hC.2.2.2.2.2.2.2.2.2.2.symm
      · rw [if_neg e]; exact h1 c k z e
    | succ n ih =>
      intro i ja lu hi h1 l1 l2 h2
      obtain ⟨P, o, V, hP, hg, hb⟩ := hB i (by omega)
      rw [b230_123, if_neg (show ¬ (10 : Int32) < nI i from nI_nlt (a := 10) (by omega) (by omega)), show (10 : Int32) * nI i = nI (10 * i) by rw [show (10 : Int32) = nI 10 from rfl, pk_mul]]
      have kk : ∀ k, k ≠ 51 → ¬ zgr 127 k = 0 → zu ja 127 51 (nI (10 * i)) 127 k = ia 127 k := fun k h3 h4 => by rw [zu_k h3]; exact h1 127 k h4 (by omega)
      have oo : ∀ c, c ≠ 127 → zu ja 127 51 (nI (10 * i)) c = ja c := fun c h => zu_o h
      refine S_fit (k := i) (P := P) (o := o) (V := V) (ia := ia) (by omega) (zPk_e hP hC.2.1) (zPR_e hP hC.2.1 (zPR_i (fun c q1 q2 => by
        rw [oo c (by omega)]
        funext j
        refine h1 c j ?_ (by omega)
        rw [zgr_2b q1 q2]; decide) hC.2.2.1)) (zOp_g (by omega) hg (by rw [kk 49 (by decide) (by decide)]; exact hC.2.2.2.2.2.2.2.2.1) (by rw [kk 50 (by decide) (by decide)]; exact hC.2.2.2.2.2.2.2.2.2.1) (zu_eq _ _ _ _)) hg hn (by rw [kk 57 (by decide) (by decide)]; exact hn.2.2.1) (by rw [kk 58 (by decide) (by decide)]; exact hn.2.2.2.2.1) (fun c q1 q2 => by rw [oo c (by omega)]; exact f6 c q1 q2 ja h1) (fun j hj => by rw [oo 167 (by decide)]; exact h2 j hj) hl (fun X r' ua lc s1 s2 => ?_)
      have hz : zit (zbS B) (i + 1) (0 : Int32) = zbS B i (zit (zbS B) i 0) := rfl
      have nx := ih (i + 1) (zPM N 1 X r' ua) lc (by omega) (fun c k z1 z2 => ?_) (by rw [s2 72 (by decide) (by decide)]; exact l1) (by rw [s2 82 (by decide) (by decide)]; exact l2) (fun k hk => ?_)
      · rw [hz] at nx
        generalize zit (zbS B) i 0 = a at nx ⊢
        rw [kS, b230_143, ns]
        unfold zbS at nx
        by_cases cc : zFt ia M P o (zBeg P N V) (P 28 2).toInt64 last = true
        · rw [if_pos cc, if_pos rfl, Int32.or_zero]
          rw [cc] at hb
          rw [hb] at nx
          exact nx
        · have cc' : zFt ia M P o (zBeg P N V) (P 28 2).toInt64 last = false := by simpa using cc
          rw [if_neg cc, if_neg (by decide)]
          rw [cc'] at hb
          rw [hb] at nx
          exact nx
      · obtain ⟨y, rfl⟩ := s1
        by_cases e1 : zIn 1 c k
        · rw [zgr_in e1] at z1; exact absurd rfl z1
        · rw [zPM_out e1, zu_at]
          by_cases e2 : c = 127 ∧ k = 34
          · rw [e2.1, e2.2] at z1; exact absurd rfl z1
          · rw [if_neg e2, zu_at, if_neg z2]; exact h1 c k z1 z2
      · rw [zPM_o (by omega), zSc_c s1 (by decide), oo 167 (by decide)]; exact h2 k hk
  exact lp 11 0 ja0 lb (by omega) (fun c k z1 z2 => by
    by_cases e : c = 167
    · subst e; exact absurd rfl z1
    · rw [j1 c k e]; exact hfr.1 c k z1) hfr.2.1 hfr.2.2 j2
theorem zNote_nt (hN : zNote N ia) : ∃ m M v t, zNt N m M v t ia ∧ zLm (zQs (ia 111) M) t M ≤ 60 := by
  obtain ⟨m, n1, n2, n3, n4, n5, n6⟩ := hN
  have hM := zKn_le (m := m) n5 n1
  refine ⟨m, zKn m (ia 127 58), ia 127 58, fun k => zct (ia 107 k), ⟨n1, n2, n3, n4, rfl, n5, rfl, fun k hk => ((n6 k (by omega)).1).symm, fun j hj => ?_, fun k hk e => ?_⟩, ?_⟩
  · obtain ⟨a1, a2⟩ := n6 j (by omega)
    rw [a1]
    rcases a2 with q | ⟨i, hi, q⟩
    · exact Or.inl q.1
    · exact Or.inr ⟨i, hi, q⟩
  · obtain ⟨a1, a2⟩ := n6 k (by omega)
    rcases a2 with ⟨_, b9, b10, tt, qq, t0, t6, hq, e7, e62, e8, e63⟩ | ⟨i, hi, q⟩
    · have ec : zct (ia 107 k) = tt := by rw [e7, zct_n (by omega)]
      refine ⟨?_, ?_, ?_, ?_, b9, b10, qq, hq, e8, e63⟩
      · show ia 107 k = nI (zct (ia 107 k)); rw [ec, e7]
      · show ia 162 k = nI (zct (ia 107 k)); rw [ec, e62]
      · show 0 < zct (ia 107 k); rw [ec]; exact t0
      · show zct (ia 107 k) ≤ 60; rw [ec]; exact t6
    · rw [a1, q] at e
      exact absurd e (fun z => nI_pos (n := i) (by omega) (by rw [z]; decide))
  · rw [zLm_le]
    intro k hk hq
    obtain ⟨a1, a2⟩ := n6 k (by omega)
    have e := (zQs_i hq).2.2
    rcases a2 with ⟨_, b9, b10, tt, qq, t0, t6, hq, e7, e62, e8, e63⟩ | ⟨i, hi, q⟩
    · show zct (ia 107 k) ≤ 60
      rw [e7, zct_n (by omega)]; exact t6
    · rw [a1, q] at e
      exact absurd e (fun z => nI_pos (n := i) (by omega) (by rw [z]; decide))
end ZP
theorem T_wears {d pl dr : Nat} {cp cw rp : Option Nat} {ia : Nat → Nat → Int32} {la : Nat → Nat → Int64} {Kc : Option Value → zHP → Prop} {Km : Option Value → Option Value → zHP → Prop} (hI : zInv pl dr ia la) (hc : ∀ v hp, zWM (d + 400) 231 [.ref 127] hp (Km v) → Kc v hp) (hm : zEndK ia Km) : zWM (d + 400) 120 [.ref 0] (ia, la, zRA pl dr cp cw rp) Kc := by
  have fin := zfin hI hm
  obtain ⟨i1, i2, i3, i4, i5, i6, i7, p, N, L, T, D, W, r, hC, hM, hDe, hNo⟩ := hI
  have hN6 : N ≤ 6 := hC.2.1.2.1
  have hT12 : T ≤ 12 := hC.2.1.2.2.2.2.2.1
  obtain ⟨m, M, v, t, hn, hl⟩ := zNote_nt hNo
  rw [e120, b120_0]
  refine S_weigh (M := M) (t := t) hn.1 hn.2.1 hn.2.2.2.1 hn.2.2.2.2.2.1 hn.2.2.2.2.2.2.1 hn.2.2.2.2.2.2.2.2.1 (fun k hk e => ⟨(hn.2.2.2.2.2.2.2.2.2 k hk e).1, (hn.2.2.2.2.2.2.2.2.2 k hk e).2.2.2.1⟩) (fun ja j1 j2 j3 => ?_)
  have fr0 : zFr ia la ja la := ⟨fun c k z => by
    by_cases e1 : c = 112
    · subst e1; exact absurd rfl z
    by_cases e2 : c = 106 ∧ k = 1
    · rw [e2.1, e2.2] at z; exact absurd rfl z
    exact j1 c k e1 e2, rfl, rfl⟩
  rw [kN, b120_7]
  have lp : ∀ (n i : Nat) (sa : Nat → Nat → Int32) lb (B : Nat → Bool) cp cw, i + n = 11 → zFr ia la sa lb → sa 106 1 = nI (zLm (zQs (ia 111) M) t M) → (∀ j, j < 24 → sa 112 j = if zQs (ia 111) M j = true then 1 else 0) → (∀ k, k < i → zSp p ia N M (zLm (zQs (ia 111) M) t M) k (B k)) → zWP (d + 400) 120 11 [some (.ref 0), some (.int (zit (zbS B) i 0)), some (.int (nI i))] [] (sa, lb, zRA pl dr cp cw rp) Kc := by
    intro n
    induction n with
    | zero =>
      intro i sa lb B cp cw hi hfr s1 s2 hB
      have e11 : i = 11 := by omega
      subst e11
      rw [b120_11, if_pos (by decide)]
      refine hc _ _ ?_
      rw [e231, b231_0]
      refine S_wnow i1 hC hn (zFr_0 hfr) hl hB (fun ka lu hfu => ?_)
      rw [kS, b231_9]
      exact fin _ _ _ _ _ _ _ hfu rfl
    | succ n ih =>
      intro i sa lb B cp cw hi hfr s1 s2 hB
      have step : ∀ (b : Bool), zSp p ia N M (zLm (zQs (ia 111) M) t M) i b → (∀ k, k < i + 1 → zSp p ia N M (zLm (zQs (ia 111) M) t M) k ((fun k => if k = i then b else B k) k)) ∧ zit (zbS (fun k => if k = i then b else B k)) (i + 1) (0 : Int32) = zbS (fun _ => b) i (zit (zbS B) i 0) := by
        intro b hb
        refine ⟨fun k hk => ?_, ?_⟩
        · by_cases e : k = i
          · subst e; simpa using hb
          · simp only [e, if_false]; exact hB k (by omega)
        · show zbS (fun k => if k = i then b else B k) i (zit (zbS (fun k => if k = i then b else B k)) i 0) = _
          rw [zit_e (g := zbS B) i (fun j a hj => by unfold zbS; simp [show ¬ j = i by omega])]
          unfold zbS
          simp
      rw [b120_11, if_neg (show ¬ (11 : Int32) ≤ nI i from nI_nle1 (a := 11) (by omega) (by omega))]
      refine S_agw (k := i) i1 (by omega) hC hn hfr s1 hl s2 (fun P o V sa' lb' hP hg hF hf' hs' => ?_) (fun V ia2 la2 hP hg hF ho l1 l2 l3 => ?_)
      · obtain ⟨q1, q2⟩ := step false ⟨P, o, V, hP, hg, by rw [hF]; rfl⟩
        have nx := ih (i + 1) sa' lb' _ (some pl) (some 92) (by omega) hf' (by rw [hs' _ (by decide)]; exact s1) (fun j hj => by rw [hs' _ (by decide)]; exact s2 j hj) q1
        rw [q2] at nx
        rw [kS, b120_22, if_pos rfl, ns]
        exact nx
      · obtain ⟨q1, q2⟩ := step true ⟨fun g => ia2 (pl + g), ia2 102, V, hP, hg, by rw [show (fun g => ia2 (pl + g)) 28 2 = ia2 (pl + 28) 2 from rfl, hF]; rfl⟩
        have nx := ih (i + 1) _ la2 _ (some pl) (some 92) (by omega) (show zFr ia la (zPW 92 (zDays (fun g => ia2 (pl + g)) (ia2 102) (zLm (zQs (ia 111) M) t M) (zBeg (fun g => ia2 (pl + g)) N V) (ia2 (pl + 28) 2).toInt64).1 ia2) la2 from ⟨zFG_PW (fun c k h1 h2 => zgr_0 h1 (by omega)) (fun c k z => by
          by_cases e : c < 92 ∨ 102 < c
          · rw [ho c e]; exact hfr.1 c k z
          · exact absurd (zgr_0 (by omega) (by omega)) z), by rw [l1]; exact hfr.2.1, by rw [l2]; exact hfr.2.2⟩) (by rw [zPW_o (by omega), ho _ (by omega)]; exact s1) (fun j hj => by rw [zPW_o (by omega), ho _ (by omega)]; exact s2 j hj) q1
        rw [q2] at nx
        rw [kS, b120_22, if_neg (by decide), ns]
        exact nx
  exact lp 11 0 ja la (fun _ => false) cp cw (by omega) fr0 j2 j3 (fun k hk => by omega)
