/-! count and law -/
section ZP
variable {d pl dr N L T D s w : Nat} {cp cw rp : Option Nat} {p ia W V : Nat → Nat → Int32} {o : Nat → Int32} {r bn x y : Int32} {la : Nat → Nat → Int64} {K : Option Value → zHP → Prop}
def zps (W : Nat → Nat → Int32) (i : Nat) (a : Int32) : Int32 := a + W 1 i
theorem zps_more {n : Nat} : ∀ m : Nat, (∀ i, n ≤ i → i < n + m → W 1 i = 0) → zit (zps W) (n + m) 0 = zit (zps W) n 0 := by
  intro m
  induction m with
  | zero => intro _; rfl
  | succ m ih =>
    intro h
    show zps W (n + m) (zit (zps W) (n + m) 0) = _
    rw [ih (fun i h1 h2 => h i h1 (by omega))]
    generalize zit (zps W) n 0 = a
    unfold zps
    rw [h (n + m) (by omega) (by omega), Int32.add_zero]
theorem zps_m2 {a b : Nat} (hab : a ≤ b) (h : ∀ i, a ≤ i → i < b → W 1 i = 0) : zit (zps W) b 0 = zit (zps W) a 0 := by
  have := zps_more (W := W) (n := a) (b - a) (fun i h1 h2 => h i h1 (by omega))
  rwa [show a + (b - a) = b by omega] at this
theorem zcnt_m2 {P : Nat → Bool} {a b : Nat} (hab : a ≤ b) (h : ∀ i, a ≤ i → i < b → P i = false) : zcnt P b = zcnt P a := by
  have := zcnt_more (P := P) (n := a) (b - a) (fun i h1 h2 => h i h1 (by omega))
  rwa [show a + (b - a) = b by omega] at this
theorem S_psum (hw : zIsW w) (e1 : ia (w + 1) = W 1) : zWM d 74 [.ref w] (ia, la, zRA pl dr cp cw rp) K = K (some (.int (zit (zps W) 6 0))) (ia, la, zRA pl dr cp cw rp) := by
  have hq : zkd (w + 1) = 100 ∧ zln (w + 1) = 6 := by rcases hw with h | h | h <;> subst h <;> exact ⟨rfl, rfl⟩
  rw [e74, b74_0 hw]
  have lp : ∀ m i a5, i + m = 6 → zWP d 74 13 [some (.ref w), some (.int (zit (zps W) i 0)), some (.ref (w + 1)), some (.int 6), some (.int (nI i)), a5] [] (ia, la, zRA pl dr cp cw rp) K = K (some (.int (zit (zps W) 6 0))) (ia, la, zRA pl dr cp cw rp) := by
    intro m
    induction m with
    | zero => intro i a5 hi; rw [b74_13 hw, if_pos (show (6 : Int32) ≤ nI i from nI_le1 (a := 6) (by omega) (by omega)), show i = 6 by omega]
    | succ m ih =>
      intro i a5 hi
      have ih := fun a5 => ih (i + 1) a5 (by omega)
      rw [show zit (zps W) (i + 1) (0 : Int32) = zit (zps W) i 0 + W 1 i from rfl] at ih
      rw [b74_13 hw, if_neg (z6le (by omega)), hq.1, hq.2, zdrop ⟨rfl, zvi (by omega) (by omega)⟩, zcln (by omega), e1, ns]
      exact ih _
  exact lp 6 0 none (by omega)
theorem S_psumM (hs : s < 23) (hN : N ≤ 6) (hH : zHas N s W r ia) (hR : zPR p ia N L T) : zWM d 188 [.ref 127, .int (nI s)] (ia, la, zRA pl dr cp cw rp) K = K (some (.int (zit (zps W) N 0))) (ia, la, zRA pl dr cp cw rp) := by
  rw [e188, b188_0]
  refine Eq.trans (zlpE (fun i => zWP d 188 4 [some (.ref 127), some (.int (nI s)), some (.int (zit (zps W) i 0)), some (.int (nI i))] [] (ia, la, zRA pl dr cp cw rp) K) N ?_) ?_
  · intro i hi
    show zWP d 188 4 [some (.ref 127), some (.int (nI s)), some (.int (zit (zps W) i 0)), some (.int (nI i))] [] (ia, la, zRA pl dr cp cw rp) K = zWP d 188 4 [some (.ref 127), some (.int (nI s)), some (.int (zit (zps W) i 0 + W 1 i)), some (.int (nI (i + 1)))] [] (ia, la, zRA pl dr cp cw rp) K
    rw [b188_4, hR.1, if_neg (nI_nle1 hi (by omega)), m6, zg (by omega) (by omega), zcln (by omega), (hH.2.2.2.2.2.2.1 i (by omega)).2.2.2, ns]
  · rw [b188_4, hR.1, if_pos (nI_le1 (by omega) (by omega))]
theorem S_lets6 (hw : zIsW w) (e3 : ia (w + 3) = W 3) : zWM (d + 1) 75 [.ref w] (ia, la, zRA pl dr cp cw rp) K = K (some (.int (zit (zcS (fun i => decide (¬ W 3 i < 0))) 6 0))) (ia, la, zRA pl dr cp cw rp) := by
  rw [e75, b75_0 hw]
  refine Eq.trans (zlpE (fun i => zWP (d + 1) 75 4 [some (.ref w), some (.int (zit (zcS (fun i => decide (¬ W 3 i < 0))) i 0)), some (.int (nI i))] [] (ia, la, zRA pl dr cp cw rp) K) 6 ?_) ?_
  · intro i hi
    show zWP (d + 1) 75 4 [some (.ref w), some (.int (zit (zcS (fun i => decide (¬ W 3 i < 0))) i 0)), some (.int (nI i))] [] (ia, la, zRA pl dr cp cw rp) K = zWP (d + 1) 75 4 [some (.ref w), some (.int (zcS (fun i => decide (¬ W 3 i < 0)) i (zit (zcS (fun i => decide (¬ W 3 i < 0))) i 0))), some (.int (nI (i + 1)))] [] (ia, la, zRA pl dr cp cw rp) K
    generalize zit (zcS (fun i => decide (¬ W 3 i < 0))) i 0 = a
    rw [b75_4 hw, if_neg (z6le hi), S_isLet hw hi, kS, b75_15 hw, e3, ns]
    unfold zcS
    by_cases c : W 3 i < 0
    · rw [if_pos c, if_pos rfl, if_neg (znd (fun q => q c))]
    · rw [if_neg c, if_neg (by decide), if_pos (decide_eq_true c)]
  · rw [b75_4 hw, if_pos (by decide)]
theorem S_letsM (hN : N ≤ 6) (hH : zHas N 0 W r ia) (hR : zPR p ia N L T) : zWM (d + 1) 238 [.ref 127] (ia, la, zRA pl dr cp cw rp) K = K (some (.int (zit (zcS (fun i => decide (¬ W 3 i < 0))) N 0))) (ia, la, zRA pl dr cp cw rp) := by
  rw [e238, b238_0]
  refine Eq.trans (zlpE (fun i => zWP (d + 1) 238 4 [some (.ref 127), some (.int (zit (zcS (fun i => decide (¬ W 3 i < 0))) i 0)), some (.int (nI i))] [] (ia, la, zRA pl dr cp cw rp) K) N ?_) ?_
  · intro i hi
    show zWP (d + 1) 238 4 [some (.ref 127), some (.int (zit (zcS (fun i => decide (¬ W 3 i < 0))) i 0)), some (.int (nI i))] [] (ia, la, zRA pl dr cp cw rp) K = zWP (d + 1) 238 4 [some (.ref 127), some (.int (zcS (fun i => decide (¬ W 3 i < 0)) i (zit (zcS (fun i => decide (¬ W 3 i < 0))) i 0))), some (.int (nI (i + 1)))] [] (ia, la, zRA pl dr cp cw rp) K
    generalize zit (zcS (fun i => decide (¬ W 3 i < 0))) i 0 = a
    rw [b238_4, hR.1, if_neg (nI_nle1 hi (by omega))]
    refine Eq.trans (S_ltM (s := 0) (by omega) hH (by omega)) ?_
    rw [kS, b238_21, ns]
    unfold zcS
    by_cases c : W 3 i < 0
    · rw [if_pos c, if_pos rfl, if_neg (znd (fun q => q c)), Int32.add_zero]
    · rw [if_neg c, if_neg (by decide), if_pos (decide_eq_true c)]
  · rw [b238_4, hR.1, if_pos (nI_le1 (by omega) (by omega))]
theorem S_bits {f : Nat → Int32} : zWM d 174 [.int (zbt f)] (ia, la, zRA pl dr cp cw rp) K = K (some (.int (nI (zcnt (fun k => decide (¬ f k = 0)) 12)))) (ia, la, zRA pl dr cp cw rp) := by
  rw [e174, b174_0]
  refine Eq.trans (zlpE (fun i => zWP d 174 4 [some (.int (zbt f)), some (.int (nI (zcnt (fun k => decide (¬ f k = 0)) i))), some (.int (nI i))] [] (ia, la, zRA pl dr cp cw rp) K) 12 ?_) ?_
  · intro i hi
    rw [b174_4, if_neg (z12le hi), zbt_at hi, ns, show zcnt (fun k => decide (¬ f k = 0)) (i + 1) = (if decide (¬ f i = 0) = true then zcnt (fun k => decide (¬ f k = 0)) i + 1 else zcnt (fun k => decide (¬ f k = 0)) i) from rfl]
    by_cases c : f i = 0
    · rw [if_pos c, if_neg (znd (fun q => q c)), Int32.add_zero]
    · rw [if_neg c, if_pos (decide_eq_true c), ns]
  · rw [b174_4, if_pos (by decide)]
end ZP
theorem T_count {d pl dr : Nat} {cp cw rp : Option Nat} {ia : Nat → Nat → Int32} {la : Nat → Nat → Int64} {Kc : Option Value → zHP → Prop} {Km : Option Value → Option Value → zHP → Prop} {x1 : Int32} (hI : zInv pl dr ia la) (hc : ∀ v hp, zWM (d + 400) 239 [.ref 127, .int x1] hp (Km v) → Kc v hp) (hm : zEndK ia Km) : zWM (d + 400) 127 [.ref 0, .int x1] (ia, la, zRA pl dr cp cw rp) Kc := by
  have fin := zfin hI hm
  obtain ⟨i1, i2, i3, i4, i5, i6, i7, p, N, L, T, D, W, r, hC, hM, hDe, hNo⟩ := hI
  have hN6 : N ≤ 6 := hC.2.1.2.1
  have hT12 : T ≤ 12 := hC.2.1.2.2.2.2.2.1
  have hR := hC.2.2.1
  have hR' : zPR p (zu ia 127 0 0) N L T := zPR_i (fun c h1 h2 => zu_o (by omega)) hR
  have hl := zC_0 hC
  have hl' : zHas N 0 W r (zu ia 127 0 0) := zHas_fr (la := la) (lb := la) (by decide) (zFr_0 zFr_r) hl
  have hf := zC_f hC
  have o0 : ∀ c, c ≠ 127 → zu ia 127 0 0 c = ia c := fun c h => zu_o h
  have e72 : ia 72 = W 0 := zC_W hC (g := 0) (by omega)
  have hp0 : ia pl = p 0 := hC.1 0 (by omega)
  have fin2 : ∀ v v2 : Option Value, v2 = v → Km v v2 (zu ia 127 0 0, la, zRA pl dr cp cw rp) := fun v v2 e => fin v v2 _ _ _ _ _ (zFr_0 zFr_r) e
  rw [e127, b127_0 i1, hp0, e72]
  by_cases c0 : x1 = 0
  · rw [if_pos c0]
    refine hc _ _ ?_
    rw [e239, b239_0, if_pos c0, o0 _ (by decide)]
    exact fin2 _ _ (by rw [hR.1, hC.2.1.1])
  by_cases c1 : x1 = 1
  · rw [if_neg c0, if_pos c1]
    refine hc _ _ ?_
    rw [e239, b239_0, if_neg c0, if_pos c1, o0 _ (by decide)]
    exact fin2 _ _ (by rw [hR.2.1, hC.2.1.2.2.1])
  by_cases c2 : x1 = 2
  · rw [if_neg c0, if_neg c1, if_pos c2]
    refine hc _ _ ?_
    rw [e239, b239_0, if_neg c0, if_neg c1, if_pos c2, o0 _ (by decide)]
    exact fin2 _ _ (by rw [hR.2.2.1, hC.2.1.2.2.2.2.1])
  by_cases c3 : x1 = 3
  · rw [if_neg c0, if_neg c1, if_neg c2, if_pos c3]
    refine hc _ _ ?_
    rw [e239, b239_0, if_neg c0, if_neg c1, if_neg c2, if_pos c3, o0 _ (by decide)]
    exact fin2 _ _ (by rw [hR.2.2.2.2.2.2.1])
  rw [if_neg c0, if_neg c1, if_neg c2, if_neg c3]
  have m0 : ∀ K : Option Value → zHP → Prop, zWM (d + 400) 239 [.ref 127, .int x1] (ia, la, zRA pl dr cp cw rp) K = _ := fun K => by rw [e239, b239_0, if_neg c0, if_neg c1, if_neg c2, if_neg c3]
  by_cases c4 : x1 = 4
  · rw [if_pos c4]
    refine hc _ _ ?_
    rw [m0, if_pos c4, o0 _ (by decide)]
    exact fin2 _ _ (by rw [hl.1])
  rw [if_neg c4]
  by_cases c5 : x1 = 5
  · rw [if_pos c5, S_lets6 (Or.inl rfl) (zC_W hC (g := 3) (by omega)), kS, b127_119]
    refine hc _ _ ?_
    rw [m0, if_neg c4, if_pos c5, S_letsM hN6 hl' hR', kS, b239_116]
    refine fin2 _ _ ?_
    rw [zcS_n, zcS_n]
    congr 3
    refine (zcnt_m2 hN6 (fun i h1 h2 => ?_)).symm
    rw [(hf.1.2.2.1 i h1 h2).2]
    rfl
  rw [if_neg c5]
  by_cases c6 : x1 = 6
  · rw [if_pos c6, S_psum (Or.inl rfl) (zC_W hC (g := 1) (by omega)), kS, b127_127]
    refine hc _ _ ?_
    rw [m0, if_neg c4, if_neg c5, if_pos c6]
    refine Eq.mpr (S_psumM (s := 0) (by omega) hN6 hl' hR') ?_
    rw [kS, b239_122]
    refine fin2 _ _ ?_
    rw [zps_m2 hN6 (fun i h1 h2 => (hf.1.2.2.1 i h1 h2).1)]
  rw [if_neg c6]
  by_cases c7 : x1 = 7
  · rw [if_pos c7]
    refine hc _ _ ?_
    rw [m0, if_neg c4, if_neg c5, if_neg c6, if_pos c7]
    refine Eq.mpr (S_forgM (s := 0) (by omega) hT12 hl' hR') ?_
    rw [kS, b239_129]
    refine fin2 _ _ ?_
    rw [zcS_n, hf.2.1.2.1]
    congr 3
    rw [zcnt_m2 (a := T) (b := 12) hT12 (fun i h1 h2 => ?_)]
    · apply zcnt_ext
      intro i hi
      simp
    · rcases (hf.2.1.1 i h2).1 with q | ⟨_, q, _⟩
      · rw [q]; rfl
      · omega
  rw [if_neg c7]
  by_cases c8 : x1 = 8
  · rw [if_pos c8]
    refine hc _ _ ?_
    rw [m0, if_neg c4, if_neg c5, if_neg c6, if_neg c7, if_pos c8, o0 _ (by decide), hl.2.2.2.1, S_bits, kS, b239_139]
    exact fin2 _ _ (by rw [hf.2.1.2.2])
  rw [if_neg c8]
  by_cases c9 : x1 = 9
  · rw [if_pos c9]
    refine hc _ _ ?_
    rw [m0, if_neg c4, if_neg c5, if_neg c6, if_neg c7, if_neg c8, if_pos c9, o0 _ (by decide), hl.2.2.2.2.1, S_bits, kS, b239_149]
    exact fin2 _ _ (by rw [hf.2.2.2])
  rw [if_neg c9]
  by_cases c10 : x1 = 10
  · rw [if_pos c10]
    refine hc _ _ ?_
    rw [m0, if_neg c4, if_neg c5, if_neg c6, if_neg c7, if_neg c8, if_neg c9, if_pos c10, o0 _ (by decide)]
    exact fin2 _ _ (by rw [hl.2.2.1])
  rw [if_neg c10]
  obtain ⟨m, n1, n2, n3, n4, n5, n6⟩ := hNo
  by_cases c11 : x1 = 11
  · rw [if_pos c11]
    refine hc _ _ ?_
    rw [m0, if_neg c4, if_neg c5, if_neg c6, if_neg c7, if_neg c8, if_neg c9, if_neg c10, if_pos c11, zu_k (by decide)]
    exact fin2 _ _ (by rw [n2, n3])
  rw [if_neg c11]
  by_cases c12 : x1 = 12
  · rw [if_pos c12, e47, b47_0, kS, b127_175, kS, b127_175]
    have m1 : ∀ K : Option Value → zHP → Prop, zWM (d + 400) 239 [.ref 127, .int x1] (ia, la, zRA pl dr cp cw rp) K = (if ¬ ia 127 58 = -1 then K (some (.int (ia 127 58))) (zu ia 127 0 0, la, zRA pl dr cp cw rp) else K (some (.int (ia 127 57))) (zu ia 127 0 0, la, zRA pl dr cp cw rp)) := fun K => by
      rw [m0, if_neg c4, if_neg c5, if_neg c6, if_neg c7, if_neg c8, if_neg c9, if_neg c10, if_neg c11, if_pos c12, e227, b227_0, kS, b239_166, kS, b239_166, zu_k (by decide), zu_k (by decide)]
    by_cases q : ia 106 2 = -1
    · rw [if_neg (fun z => z q)]
      refine hc _ _ ?_
      rw [m1, if_neg (fun z => z (n4.symm.trans q))]
      exact fin2 _ _ (by rw [n2, n3])
    · rw [if_pos q]
      refine hc _ _ ?_
      rw [m1, if_pos (fun z => q (n4.trans z))]
      exact fin2 _ _ (by rw [n4])
  rw [if_neg c12]
  by_cases c13 : x1 = 13
  · rw [if_pos c13]
    refine hc _ _ ?_
    rw [m0, if_neg c4, if_neg c5, if_neg c6, if_neg c7, if_neg c8, if_neg c9, if_neg c10, if_neg c11, if_neg c12, if_pos c13, zu_k (by decide)]
    obtain ⟨m, nx, Ws, q1, q2, q3, q4, q5, q6⟩ := hDe
    exact fin2 _ _ (by rw [q4, q5])
  rw [if_neg c13]
  refine hc _ _ ?_
  rw [m0, if_neg c4, if_neg c5, if_neg c6, if_neg c7, if_neg c8, if_neg c9, if_neg c10, if_neg c11, if_neg c12, if_neg c13]
  exact fin2 _ _ rfl
theorem zNm_e {W V : Nat → Nat → Int32} {h m : Nat} {pr : Int32} (e : ∀ g, g < 10 → V g = W g) : zNm V h m pr = zNm W h m pr := by
  funext k
  unfold zNm
  rw [e 0 (by omega), e 1 (by omega), e 2 (by omega), e 5 (by omega)]
section ZP
variable {d pl dr N L T D s w : Nat} {cp cw rp : Option Nat} {p ia W V : Nat → Nat → Int32} {o : Nat → Int32} {r bn x y : Int32} {la : Nat → Nat → Int64} {K : Option Value → zHP → Prop}
/-- the reference's sum of the law q, if it is told -/
theorem S_goesM {q : Nat} {nm : Nat → Int64} (hlk : zLk p) (hR : zPR p ia N L T) (hq : q < 3) (hnm : ∀ i, i < 7 → la 145 i = nm i) (hb : ∀ i, i < 7 → zlb (nm i)) (hlaw : zct (p 29 q) < zct (p 30 q)) (hK : ∀ ia' la', zSc ia ia' → zL7 la la' → (¬ zVal p nm q = zER → la' 146 0 = zVal p nm q) → K (some (.int (if zVal p nm q = zER then 0 else 1))) (ia', la', zRA pl dr cp cw rp)) : zWM (d + 6) 166 [.ref 127, .int (nI q)] (ia, la, zRA pl dr cp cw rp) K := by
  have hv := zVal_nm (nm := la 145) (nm2 := nm) hlk hq hnm
  rw [← hv] at hK
  obtain ⟨a, b, q1, q2, q3, q4, q5⟩ := hlk q hq
  obtain ⟨r1, r2, r3, r4⟩ := hR.2.2.2.2.2.2.2.2.2.2.2.2 q hq
  rw [q3, q4, zct_n (by omega), zct_n (by omega)] at r3 r4 hlaw
  unfold zVal at hK
  rw [q3, q4, zcln (by omega), zcln (by omega)] at hK
  rw [e166, b166_0, zg (by omega) (by omega), zcln (by omega), zu_o (by decide), r1, q3]
  rw [← zup_q (la := la) (c := 146) rfl]
  refine S_goes_l (ia := ia) (la := la) (p := p) (b := b) hq (by rw [r2, q4]) q2 (b - a) a 0 (la 146) (by omega) (by omega) r3 (r4 (by omega)) (fun i hi => by omega) (fun i hi => by rw [hnm i hi]; exact hb i hi) ?_ ?_
  · intro hE x g
    have hK2 := hK (zu ia 127 34 x) (va_up la 146 g) ⟨x, rfl⟩ (fun c c5 c6 => zup_n c6)
    rw [zRun_ext _ _ _ _ _ (fun _ => 0) (la 146) (fun i hi => by omega), if_pos hE] at hK2
    exact hK2 (fun z => absurd hE z)
  · intro hE x g hg
    have hK2 := hK (zu ia 127 34 x) (va_up la 146 g) ⟨x, rfl⟩ (fun c c5 c6 => zup_n c6)
    rw [zRun_ext _ _ _ _ _ (fun _ => 0) (la 146) (fun i hi => by omega), if_neg hE] at hK2
    exact hK2 (fun _ => by rw [zup_s, hg])
end ZP
theorem T_law {d pl dr : Nat} {cp cw rp : Option Nat} {ia : Nat → Nat → Int32} {la : Nat → Nat → Int64} {Kc : Option Value → zHP → Prop} {Km : Option Value → Option Value → zHP → Prop} {x1 x2 x3 x4 : Int32} (hI : zInv pl dr ia la) (hc : ∀ v hp, zWM (d + 400) 195 [.ref 127, .int x1, .int x2, .int x3, .int x4] hp (Km v) → Kc v hp) (hm : zEndK ia Km) : zWM (d + 400) 86 [.ref 0, .int x1, .int x2, .int x3, .int x4] (ia, la, zRA pl dr cp cw rp) Kc := by
  have fin := zfin hI hm
  obtain ⟨i1, i2, i3, i4, i5, i6, i7, p, N, L, T, D, W, r, hC, hM, hDe, hNo⟩ := hI
  have hN6 : N ≤ 6 := hC.2.1.2.1
  have hT12 : T ≤ 12 := hC.2.1.2.2.2.2.2.1
  have hP : ∀ g, g < 33 → (fun g => ia (pl + g)) g = p g := fun g hg => hC.1 g hg
  have hPk : zPk (fun g => ia (pl + g)) N L T := zPk_e hP hC.2.1
  have hlk : zLk (fun g => ia (pl + g)) := zLk_e hP hC.2.1.2.2.2.2.2.2.2.2.1
  have hR := hC.2.2.1
  have hR' : zPR (fun g => ia (pl + g)) (zu ia 127 0 0) N L T := zPR_i (fun c h1 h2 => zu_o (by omega)) (zPR_e hP hC.2.1 hR)
  have hR2 : zPR p (zu ia 127 0 0) N L T := zPR_i (fun c h1 h2 => zu_o (by omega)) hR
  have hl' : zHas N 0 W r (zu ia 127 0 0) := zHas_fr (la := la) (lb := la) (by decide) (zFr_0 zFr_r) (zC_0 hC)
  have fin2 : ∀ (lb : Nat → Nat → Int64), zFr ia la ia lb → ∀ v v2 : Option Value, v2 = v → Km v v2 (zu ia 127 0 0, lb, zRA pl dr cp cw rp) := fun lb hf v v2 e => fin v v2 _ _ _ _ _ (zFr_0 hf) e
  rw [e86, b86_0]
  rcases zpers x1 (N := 3) (by omega) with h1 | ⟨q, hq, rfl, hn1⟩
  · have cl : ∀ A : Prop, (if x1 < 0 then Kc (some (.long (-9223372036854775808))) (ia, la, zRA pl dr cp cw rp) else if 3 ≤ x1 then Kc (some (.long (-9223372036854775808))) (ia, la, zRA pl dr cp cw rp) else A) = Kc (some (.long (-9223372036854775808))) (ia, la, zRA pl dr cp cw rp) := by
      intro A
      by_cases c : x1 < 0
      · rw [if_pos c]
      · rw [if_neg c, if_pos (show (3 : Int32) ≤ x1 from h1.elim (fun z => absurd z c) id)]
    rw [cl]
    refine hc _ _ ?_
    rw [e195, b195_0]
    by_cases c : x1 < 0
    · rw [if_pos c]; exact fin2 _ zFr_r _ _ rfl
    · have c3 : (3 : Int32) ≤ x1 := h1.elim (fun z => absurd z c) id
      rw [if_neg c, if_pos (Int32.lt_of_lt_of_le (show (2 : Int32) < 3 by decide) c3)]; exact fin2 _ zFr_r _ _ rfl
  have hq0 : ¬ nI q < 0 := fun z => hn1 (Or.inl z)
  have hq3 : ¬ (3 : Int32) ≤ nI q := fun z => hn1 (Or.inr z)
  obtain ⟨a, b, q1, q2, q3, q4, q5⟩ := hlk q hq
  dsimp only at q3 q4
  obtain ⟨r1, r2, r3, r4⟩ := hR'.2.2.2.2.2.2.2.2.2.2.2.2 q hq
  dsimp only at r1 r2
  have m0 : ∀ (lb : Nat → Nat → Int64) (K : Option Value → zHP → Prop), zWM (d + 400) 195 [.ref 127, .int (nI q), .int x2, .int x3, .int x4] (ia, lb, zRA pl dr cp cw rp) K = (if b ≤ a then K (some (.long (-9223372036854775808))) (zu ia 127 0 0, lb, zRA pl dr cp cw rp) else if x2 < 0 ∨ nI N ≤ x2 then K (some (.long (-9223372036854775808))) (zu ia 127 0 0, lb, zRA pl dr cp cw rp) else if x3 < 0 ∨ nI N ≤ x3 then K (some (.long (-9223372036854775808))) (zu ia 127 0 0, lb, zRA pl dr cp cw rp) else zWP (d + 400) 195 35 [some (.ref 127), some (.int (nI q)), some (.int x2), some (.int x3), some (.int x4)] [.int 1] (zu ia 127 0 0, lb, zRA pl dr cp cw rp) K) := by
    intro lb K
    rw [e195, b195_0, if_neg hq0, if_neg (fun z => absurd z (show ¬ (2 : Int32) < nI q from nI_nlt (a := 2) (by omega) (by omega))), e167, b167_0, zg (by omega) (by omega), zcln (by omega), r1, r2, q3, q4]
    by_cases c : b ≤ a
    · rw [if_pos (nI_le1 c (by omega)), if_pos c, kS, b195_19, if_pos rfl]
    · rw [if_neg (nI_nle1 (by omega) (by omega)), if_neg c, kS, b195_19, if_neg (by decide), S_isM hR2, kS, b195_27]
      by_cases c2 : x2 < 0 ∨ nI N ≤ x2
      · rw [if_pos c2, if_pos rfl, if_pos c2]
      · rw [if_neg c2, if_neg (by decide), if_neg c2, S_isM hR2, kS]
        by_cases c3 : x3 < 0 ∨ nI N ≤ x3
        · rw [if_pos c3, if_pos c3, b195_35, if_neg (fun z => z rfl)]
        · rw [if_neg c3, if_neg c3]
  have bad : ∀ (lb : Nat → Nat → Int64) (K : Option Value → zHP → Prop), (x2 < 0 ∨ nI N ≤ x2) ∨ (x3 < 0 ∨ nI N ≤ x3) → zWM (d + 400) 195 [.ref 127, .int (nI q), .int x2, .int x3, .int x4] (ia, lb, zRA pl dr cp cw rp) K = K (some (.long (-9223372036854775808))) (zu ia 127 0 0, lb, zRA pl dr cp cw rp) := by
    intro lb K hb
    rw [m0]
    split
    · rfl
    · split
      · rfl
      · split
        · rfl
        · next u v => exact absurd hb (fun z => z.elim u v)
  rw [if_neg hq0, if_neg hq3, S_isP i1 hC, kS, b86_14]
  rcases zpers x2 (N := N) (by omega) with h2 | ⟨h, hh, rfl, hn2⟩
  · rw [if_pos h2, if_pos rfl]
    refine hc _ _ ?_
    rw [bad _ _ (Or.inl h2)]
    exact fin2 _ zFr_r _ _ rfl
  rw [if_neg hn2, if_neg (by decide), S_isP i1 hC, kS, b86_22]
  rcases zpers x3 (N := N) (by omega) with h3 | ⟨m, hm', rfl, hn3⟩
  · rw [if_pos h3, if_neg (fun z => z rfl)]
    refine hc _ _ ?_
    rw [bad _ _ (Or.inr h3)]
    exact fin2 _ zFr_r _ _ rfl
  rw [if_neg hn3, if_pos (by decide)]
  have m1 : ∀ (lb : Nat → Nat → Int64) (K : Option Value → zHP → Prop), zWM (d + 400) 195 [.ref 127, .int (nI q), .int (nI h), .int (nI m), .int x4] (ia, lb, zRA pl dr cp cw rp) K = (if b ≤ a then K (some (.long (-9223372036854775808))) (zu ia 127 0 0, lb, zRA pl dr cp cw rp) else if q = 0 ∧ (x4 < 0 ∨ 99 < x4) then K (some (.long (-9223372036854775808))) (zu ia 127 0 0, lb, zRA pl dr cp cw rp) else zWP (d + 400) 195 62 [some (.ref 127), some (.int (nI q)), some (.int (nI h)), some (.int (nI m)), some (.int x4)] [] (zu ia 127 0 0, lb, zRA pl dr cp cw rp) K) := by
    intro lb K
    rw [m0]
    by_cases c : b ≤ a
    · rw [if_pos c, if_pos c]
    · rw [if_neg c, if_neg c, if_neg hn2, if_neg hn3, b195_35, if_pos (by decide)]
      by_cases c0 : q = 0
      · subst c0
        rw [if_neg (fun z => z rfl)]
        by_cases c4 : x4 < 0
        · rw [if_pos c4, if_pos ⟨rfl, Or.inl c4⟩]
        · rw [if_neg c4]
          by_cases c5 : x4 ≤ 99
          · rw [if_pos c5, if_neg (fun z => z.2.elim c4 (fun y => Int32.not_lt.mpr c5 y))]
          · rw [if_neg c5, if_pos ⟨rfl, Or.inr (Int32.not_le.mp c5)⟩]
      · rw [if_pos (qne_0 c0 (by omega)), if_neg (fun z => c0 z.1)]
  have c45 : (if ¬ nI q = 0 then zWP (d + 400) 86 45 [some (.ref 0), some (.int (nI q)), some (.int (nI h)), some (.int (nI m)), some (.int x4)] [] (ia, la, zRA pl dr cp cw rp) Kc else zWM (d + 399) 87 [.int x4] (ia, la, zRA pl dr cp cw rp) (zK (d + 400) 86 38 [some (.ref 0), some (.int (nI q)), some (.int (nI h)), some (.int (nI m)), some (.int x4)] [] Kc)) = (if q = 0 ∧ (x4 < 0 ∨ 99 < x4) then Kc (some (.long (-9223372036854775808))) (ia, la, zRA pl dr cp cw rp) else zWP (d + 400) 86 45 [some (.ref 0), some (.int (nI q)), some (.int (nI h)), some (.int (nI m)), some (.int x4)] [] (ia, la, zRA pl dr cp cw rp) Kc) := by
    by_cases c0 : q = 0
    · subst c0
      rw [if_neg (fun z => z rfl), e87, b87_0, kS, b86_38, kS, b86_38, if_neg (show ¬ ¬ (0 : Int32) = 0 from fun z => z rfl), if_pos (show ¬ (1 : Int32) = 0 by decide)]
      by_cases c4 : x4 < 0
      · rw [if_pos c4, if_pos ⟨rfl, Or.inl c4⟩]
      · rw [if_neg c4]
        by_cases c5 : 99 < x4
        · rw [if_pos c5, if_pos ⟨rfl, Or.inr c5⟩]
        · rw [if_neg c5, if_neg (fun z => z.2.elim c4 c5)]
    · rw [if_pos (qne_0 c0 (by omega)), if_neg (fun z => c0 z.1)]
  refine Eq.mpr c45 ?_
  by_cases cp0 : q = 0 ∧ (x4 < 0 ∨ 99 < x4)
  · rw [if_pos cp0]
    refine hc _ _ ?_
    rw [m1, if_pos cp0]
    split
    · exact fin2 _ zFr_r _ _ rfl
    · exact fin2 _ zFr_r _ _ rfl
  rw [if_neg cp0]
  generalize hpr : (if q = 0 then x4 else 0) = pr
  have c50 : zWP (d + 400) 86 45 [some (.ref 0), some (.int (nI q)), some (.int (nI h)), some (.int (nI m)), some (.int x4)] [] (ia, la, zRA pl dr cp cw rp) Kc = zWM (d + 399) 50 [.ref 103, .ref 72, .int (nI h), .int (nI m), .int pr] (ia, la, zRA pl dr cp cw rp) (zK (d + 400) 86 71 [some (.ref 0), some (.int (nI q)), some (.int (nI h)), some (.int (nI m)), some (.int x4)] [] Kc) := by
    rw [b86_45, ← hpr]
    by_cases c0 : q = 0
    · subst c0; rw [if_neg (fun z => z rfl), if_pos rfl]
    · rw [if_pos (qne_0 c0 (by omega)), if_neg c0]
  rw [c50]
  have tell := S_tell (d := d + 399) (pl := pl) (dr := dr) (cp := cp) (cw := cw) (rp := rp) (ia := ia) (la := la) (K := zK (d + 400) 86 71 [some (.ref 0), some (.int (nI q)), some (.int (nI h)), some (.int (nI m)), some (.int x4)] [] Kc) (w := 72) (h := h) (m := m) (W := fun g => ia (72 + g)) (pr := pr) (Or.inl rfl) (by omega) (by omega)
  rw [zPW_s] at tell
  rw [tell, kN, b86_71, zNm_e (W := W) (fun g hg => zC_W hC hg)]
  refine S_work i1 hq hlk (fun la2 h5 => ?_)
  rw [zVal_nm (nm2 := zNm W h m pr) hlk hq (fun i hi => by unfold zTl; simp [hi]), kS, b86_86]
  have fr1 : zFr ia la ia la2 := by
    refine ⟨fun _ _ _ => rfl, ?_, ?_⟩
    · rw [h5 72 (by decide) (by decide)]; funext k; unfold zTl; rw [if_neg (by omega)]
    · rw [h5 82 (by decide) (by decide)]; funext k; unfold zTl; rw [if_neg (by omega)]
  refine hc _ _ ?_
  by_cases cl : b ≤ a
  · have ev : zVal (fun g => ia (pl + g)) (zNm W h m pr) q = zER := by
      unfold zVal
      dsimp only
      rw [q3, q4, zcln (by omega), zcln (by omega), show b - a = 0 by omega]
      rfl
    rw [m1, if_pos cl, ev]
    exact fin2 _ fr1 _ _ rfl
  · rw [m1, if_neg cl, if_neg cp0]
    have e62 : ∀ K : Option Value → zHP → Prop, zWP (d + 400) 195 62 [some (.ref 127), some (.int (nI q)), some (.int (nI h)), some (.int (nI m)), some (.int x4)] [] (zu ia 127 0 0, la2, zRA pl dr cp cw rp) K = zWM (d + 399) 175 [.ref 127, .int (nI 0), .int (nI h), .int (nI m), .int pr] (zPM N 0 W r (zu ia 127 0 0), la2, zRA pl dr cp cw rp) (zK (d + 400) 195 79 [some (.ref 127), some (.int (nI q)), some (.int (nI h)), some (.int (nI m)), some (.int x4)] [] K) := by
      intro K
      rw [zHas_eq hl', b195_62, ← hpr]
      by_cases c0 : q = 0
      · subst c0; rw [if_neg (fun z => z rfl), if_pos rfl]; rfl
      · rw [if_pos (qne_0 c0 (by omega)), if_neg c0]; rfl
    rw [e62, S_calls (by omega) hN6 hh (by omega), zHas_eq hl', kN, b195_79]
    refine S_goesM (p := fun g => ia (pl + g)) (nm := zNm W h m pr) hlk hR' hq (fun i hi => by unfold zTl; simp [hi]) (fun i _ => zNm_b i) (by rw [q3, q4, zct_n (by omega), zct_n (by omega)]; omega) (fun ia3 la3 h6 h7 h8 => ?_)
    rw [kS, b195_84]
    have fr3 : zFr ia la ia3 la3 := by
      refine zFr_7 (lb := zTl la2 145 (zNm W h m pr)) (zFr_sc (zFr_0 (v := 0) ⟨fr1.1, ?_, ?_⟩) h6) h7
      · rw [← fr1.2.1]; funext k; unfold zTl; rw [if_neg (by omega)]
      · rw [← fr1.2.2]; funext k; unfold zTl; rw [if_neg (by omega)]
    by_cases ev : zVal (fun g => ia (pl + g)) (zNm W h m pr) q = zER
    · rw [if_pos ev, if_pos rfl]
      exact fin _ _ _ _ _ _ _ fr3 (by rw [ev]; rfl)
    · rw [if_neg ev, if_neg (by decide)]
      exact fin _ _ _ _ _ _ _ fr3 (by rw [h8 ev])
