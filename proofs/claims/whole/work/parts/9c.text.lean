/-! text -/
section ZP
variable {pl dr N L T D : Nat} {p W ia ja : Nat → Nat → Int32} {la : Nat → Nat → Int64} {r : Int32}
/-- the old plan stays behind a fault -/
theorem yPR_f (hk : zPk p N L T) (hR : zPR p ia N L T) (hg : ∀ c k, 129 ≤ c → c ≤ 144 → k < yhf c → ja c k = ia c k) : zPR p ja N L T := by
  have hN : N ≤ 6 := hk.2.1
  have hL : L ≤ 10 := hk.2.2.2.1
  have hT : T ≤ 12 := hk.2.2.2.2.2.1
  have hl := hk.2.2.2.2.2.2.2.2.1
  obtain ⟨a1, a2, a3, a4, a5, a6, a7, a8, a9, a10, a11, a12, a13⟩ := hR
  refine ⟨?_, ?_, ?_, ?_, ?_, ?_, ?_, fun k hk => ?_, fun k hk => ?_, fun k hk => ?_, fun k hk => ?_, fun k hk => ?_, fun q hq => ?_⟩
  · rw [hg 129 0 (by decide) (by decide) (by decide)]; exact a1
  · rw [hg 129 1 (by decide) (by decide) (by decide)]; exact a2
  · rw [hg 129 2 (by decide) (by decide) (by decide)]; exact a3
  · rw [hg 129 3 (by decide) (by decide) (by decide)]; exact a4
  · rw [hg 129 4 (by decide) (by decide) (by decide)]; exact a5
  · rw [hg 129 5 (by decide) (by decide) (by decide)]; exact a6
  · rw [hg 129 6 (by decide) (by decide) (by decide)]; exact a7
  · rw [hg 130 k (by decide) (by decide) (by show k < 6; omega)]; exact a8 k hk
  · rw [hg 131 k (by decide) (by decide) (by show k < 18; omega)]; exact a9 k hk
  · rw [hg 132 k (by decide) (by decide) (by show k < 6; omega)]; exact a10 k hk
  · rw [hg 133 k (by decide) (by decide) (by show k < 10; omega), hg 134 k (by decide) (by decide) (by show k < 10; omega), hg 135 k (by decide) (by decide) (by show k < 10; omega), hg 136 k (by decide) (by decide) (by show k < 10; omega), hg 137 k (by decide) (by decide) (by show k < 10; omega)]; exact a11 k hk
  · rw [hg 138 k (by decide) (by decide) (by show k < 12; omega), hg 139 k (by decide) (by decide) (by show k < 12; omega), hg 140 k (by decide) (by decide) (by show k < 12; omega)]; exact a12 k hk
  · obtain ⟨b1, b2, b3, b4⟩ := a13 q hq
    obtain ⟨x, y, c1, c2, c3, c4, _⟩ := hl q hq
    have y64 : zct (p 30 q) ≤ 64 := by rw [c4]; show (nI y).toNatClampNeg ≤ 64; rw [zcln (by omega)]; exact c2
    refine ⟨by rw [hg 141 q (by decide) (by decide) (by show q < 3; omega)]; exact b1, by rw [hg 142 q (by decide) (by decide) (by show q < 3; omega)]; exact b2, fun j j1 j2 => ?_, b4⟩
    rw [hg 143 j (by decide) (by decide) (by show j < 64; omega), hg 144 j (by decide) (by decide) (by show j < 64; omega)]
    exact b3 j j1 j2
end ZP
theorem T_text {d pl dr : Nat} {cp cw rp : Option Nat} {ia : Nat → Nat → Int32} {la : Nat → Nat → Int64} {Kc : Option Value → zHP → Prop} {Km : Option Value → Option Value → zHP → Prop} {x1 : Int32} (hI : zInv pl dr ia la) (hc : ∀ v hp, zWM (d + 400) 161 [.ref 127, .int x1] hp (Km v) → Kc v hp) (hm : zEndK ia Km) : zWM (d + 400) 77 [.ref 0, .int x1] (ia, la, zRA pl dr cp cw rp) Kc := by
  have fin := zfin hI hm
  obtain ⟨i1, i2, i3, i4, i5, i6, i7, p, N, L, T, D, W, r, hC, hM, hDe, hNo⟩ := hI
  have hN6 : N ≤ 6 := hC.2.1.2.1
  have hT12 : T ≤ 12 := hC.2.1.2.2.2.2.2.1
  have fin2 : ∀ v v2 : Option Value, v2 = v → Km v v2 (zu ia 127 0 0, la, zRA pl dr cp cw rp) := fun v v2 e => fin v v2 _ _ _ _ _ (zFr_0 zFr_r) e
  obtain ⟨n0, n07, t1, t2, t3⟩ := i4
  have hpl : pl = 6 ∨ pl = 39 := i1
  have hdr : dr = 6 ∨ dr = 39 := i2
  rw [e77, b77_0]
  by_cases c0 : x1 < 0
  · rw [if_pos c0]
    refine hc _ _ ?_
    rw [e161, b161_0, if_pos c0]
    exact fin2 _ _ rfl
  rw [if_neg c0, t1]
  by_cases c1 : x1 ≤ nI n0
  case neg =>
    rw [if_neg c1]
    refine hc _ _ ?_
    rw [e161, b161_0, if_neg c0, zu_k (by decide), t2, if_neg c1]
    exact fin2 _ _ rfl
  rw [if_pos c1]
  obtain ⟨n, hn, rfl⟩ : ∃ j : Nat, j ≤ n0 ∧ x1 = nI j := nI_of2 (nI_toInt (by omega)) c0 c1
  obtain ⟨b, hb0⟩ : ∃ b : Nat → Nat, b = fun j => (ia 128 j).toNatClampNeg := ⟨_, rfl⟩
  have hb : ∀ j, j < n → b j < 256 ∧ ia 128 j = nI (b j) ∧ ia 3 j = zcb (b j) := by
    intro j hj
    obtain ⟨x, x1, x2, x3⟩ := t3 j (by omega)
    have : b j = x := by rw [hb0]; dsimp only; rw [x2]; exact zcln (by omega)
    rw [this]
    exact ⟨x1, x2, x3⟩
  refine C_text (d := d + 391) i2 hn n07 t1 i5 (fun j hj => ⟨(hb j hj).1, (hb j hj).2.2⟩) (fun ln s s9 sa z1 z2 z3 z4 => ?_) (fun e sa z1 z2 z3 z4 z5 => ?_)
  case refine_2 =>
    obtain ⟨f1, f2⟩ := z5
    rw [kN, b77_33, if_neg z4]
    refine hc _ _ ?_
    refine N_text (d := d + 209) (b := b) hn n07 (by rw [f1 127 2 (by decide) (by decide) (by decide) (by omega)]; exact t2) (fun j hj => ⟨(hb j hj).1, by rw [f1 128 j (by decide) (by decide) (by decide) (by omega)]; exact (hb j hj).2.1⟩) (fun ln s s8 sb y1 _ _ _ => by rw [z1] at y1; cases y1) (fun e' sb y1 y2 y3 y4 y5 => ?_)
    have ee : e' = e := by rw [z1] at y1; cases y1; rfl
    subst ee
    obtain ⟨g1, g2⟩ := y5
    rw [b161_149, zu_k (show (26 : Nat) ≠ 29 by decide), zu_k (show (26 : Nat) ≠ 28 by decide), if_neg y4, zu_k (show (27 : Nat) ≠ 28 by decide), y2, y3]
    generalize hj0 : zu (zu sb 127 28 (nI e'.1)) 127 29 (nI e'.2) = jf
    have jo : ∀ c, c ≠ 127 → jf c = sb c := fun c hc => by rw [← hj0, zu_o hc, zu_o hc]
    have jk : ∀ k, k ≠ 28 → k ≠ 29 → jf 127 k = sb 127 k := fun k q1 q2 => by rw [← hj0, zu_k q2, zu_k q1]
    have q1 : ∀ c k, c ≠ 1 → c ≠ 2 → c ≠ 5 → ¬ (dr ≤ c ∧ c < dr + 33) → c ≠ 127 → ¬ (129 ≤ c ∧ c ≤ 144) → jf c k = ia c k := fun c k a1 a2 a3 a4 a5 a6 => by rw [jo c a5, g1 c k (fun z => a5 z.1) (fun z => a6 ⟨z.1, z.2.1⟩), f1 c k a1 a2 a3 a4]
    have ql : ∀ c k, c < 127 → jf c k = sa c k := fun c k hc => by rw [jo c (by omega), g1 c k (by omega) (by omega)]
    have qk : ∀ k, ¬ (k = 0 ∨ k = 2 ∨ (19 ≤ k ∧ k ≤ 31)) → jf 127 k = ia 127 k := fun k hk => by rw [jk k (by omega) (by omega), g1 127 k (by omega) (by omega), f1 127 k (by decide) (by decide) (by decide) (by omega)]
    have qh : ∀ c k, 129 ≤ c → c ≤ 144 → k < yhf c → jf c k = ia c k := fun c k a1 a2 a3 => by rw [jo c (by omega), g1 c k (by omega) (fun z => by omega), f1 c k (by omega) (by omega) (by omega) (by omega)]
    obtain ⟨d1, d2, d3, d4, d5, d6, d7, d8, d9, d10, d11⟩ := hC
    have has : ∀ sl (A : Nat → Nat → Int32) (rr : Int32), zHas N sl A rr ia → zHas N sl A rr jf := fun sl A rr hh => zHas_in (fun c k hc => q1 c k (by rcases hc with z | z | z | z | z <;> omega) (by rcases hc with z | z | z | z | z <;> omega) (by rcases hc with z | z | z | z | z <;> omega) (by rcases hc with z | z | z | z | z <;> omega) (by rcases hc with z | z | z | z | z <;> omega) (by rcases hc with z | z | z | z | z <;> omega)) hh
    refine hm _ _ _ _ _ _ _ _ ⟨i1, i2, i3, ⟨0, by decide, ?_, ?_, fun i hi => absurd hi (Nat.not_lt_zero _)⟩, fun k hk => ?_, ?_, ?_, p, N, L, T, D, W, r, ⟨fun g hg => ?_, d2, yPR_f d2 d3 qh, d4, fun g hg => ?_, d6, has 0 W r d7, d8, ?_, ?_, ?_⟩, ⟨?_, ?_⟩, ?_, ?_⟩ ?_ ?_
    · rw [ql 2 1 (by decide)]; exact f2
    · rw [jk 2 (by decide) (by decide)]; exact g2
    · rw [ql 4 k (by decide), f1 4 k (by decide) (by decide) (by decide) (by omega)]; exact i5 k hk
    · rw [ql 1 3 (by decide), z2, ← hj0, zu_k (by decide), zu_eq]
    · rw [ql 1 4 (by decide), z3, ← hj0, zu_eq]
    · funext k; rw [q1 (pl + g) k (by omega) (by omega) (by omega) (by omega) (by omega) (by omega), d1 g hg]
    · funext k; rw [q1 (72 + g) k (by omega) (by omega) (by omega) (by omega) (by omega) (by omega), d5 g hg]
    · rw [qk 49 (by omega)]; exact d9
    · rw [qk 50 (by omega)]; exact d10
    · rw [qk 51 (by omega)]; exact d11
    · rw [q1 0 6 (by decide) (by decide) (by decide) (by omega) (by decide) (by omega), qk 47 (by omega)]; exact hM.1
    · rw [qk 47 (by omega)]
      rcases hM.2 with m2 | ⟨D2, r2, W2, m3, m4, m5, m6, m7⟩
      · exact Or.inl m2
      · refine Or.inr ⟨D2, r2, W2, m3, fun g hg => ?_, m5, has 2 W2 r2 m6, m7⟩
        funext k; rw [q1 (82 + g) k (by omega) (by omega) (by omega) (by omega) (by omega) (by omega), m4 g hg]
    · obtain ⟨dm, nx, Ws, x1, x2, x3, x4, x5, x6, x7⟩ := hDe
      refine ⟨dm, nx, Ws, x1, x2, ?_, ?_, ?_, x6, fun i hi => ⟨has _ _ _ (x7 i hi).1, (x7 i hi).2.1, ?_⟩⟩
      · rw [q1 113 1 (by decide) (by decide) (by decide) (by omega) (by decide) (by omega)]; exact x3
      · rw [q1 113 2 (by decide) (by decide) (by decide) (by omega) (by decide) (by omega)]; exact x4
      · rw [qk 48 (by omega)]; exact x5
      · rw [show jf 114 = ia 114 from funext (fun k => q1 114 k (by decide) (by decide) (by decide) (by omega) (by decide) (by omega))]; exact (x7 i hi).2.2
    · obtain ⟨m, x1, x2, x3, x4, x5, x6⟩ := hNo
      have cc : ∀ c, (106 ≤ c ∧ c ≤ 111) ∨ (162 ≤ c ∧ c ≤ 166) → jf c = ia c := fun c hc => funext (fun k => q1 c k (by omega) (by omega) (by omega) (by omega) (by omega) (by omega))
      refine ⟨m, x1, ?_, ?_, ?_, ?_, ?_⟩
      · rw [cc 106 (by omega)]; exact x2
      · rw [qk 57 (by omega)]; exact x3
      · rw [cc 106 (by omega), qk 58 (by omega)]; exact x4
      · rw [qk 58 (by omega)]; exact x5
      · rw [cc 111 (by omega), cc 166 (by omega), cc 109 (by omega), cc 164 (by omega), cc 110 (by omega), cc 165 (by omega), cc 107 (by omega), cc 162 (by omega), cc 108 (by omega), cc 163 (by omega)]; exact x6
    · funext k; exact q1 900 k (by decide) (by decide) (by decide) (by omega) (by decide) (by omega)
    · funext k; exact q1 901 k (by decide) (by decide) (by decide) (by omega) (by decide) (by omega)
  obtain ⟨f1, f2⟩ := z4
  obtain ⟨i', N', L', T', tt, P, l⟩ := s
  have hPk := yPk_c z2 z3
  have z20 := z2
  obtain ⟨k1, k2, k3, k4, k5, k6, k7, k8, k9, k10, k11, k12, k13⟩ := z20
  have k6 : sa dr 0 = nI ln := k6
  rw [kN, b77_33, if_pos k2]
  have bg := S_begin (d := d + 399) (pl := dr) (dr := pl) (cp := cp) (cw := cw) (rp := some dr) (K := zK (d + 400) 77 74 [some (.ref 0), some (.int (nI n)), some (.ref pl)] [] Kc) (la := la) (ia := sa) (V := fun g => sa (72 + g)) (w := 72) (p := dr) (N := N') (L := L') (T := T') (Or.inl rfl) i2 hPk
  rw [zPW_s] at bg
  rw [bg, kN, b77_74 i1, e43, b43_0, kN, b77_86 i1, e11, b11_0, kN, b77_93 i1 i2]
  generalize hj1 : zu (zu (zu (zu (zPW 72 (zBeg (fun g => sa (dr + g)) N' (fun g => sa (72 + g))) sa) 0 6 0) 106 0 0) 106 2 (-1)) 113 2 0 = c1s
  have o1 : ∀ c, c ≠ 0 → c ≠ 106 → c ≠ 113 → ¬ (72 ≤ c ∧ c < 82) → c1s c = sa c := fun c a1 a2 a3 a4 => by rw [← hj1, zu_o a3, zu_o a2, zu_o a2, zu_o a1, zPW_o (by omega)]
  have o72 : ∀ g, g < 10 → c1s (72 + g) = zBeg (fun g => sa (dr + g)) N' (fun g => sa (72 + g)) g := fun g hg => by rw [← hj1, zu_o (by omega), zu_o (by omega), zu_o (by omega), zu_o (by omega), zPW_g hg]
  have odr : ∀ g, g < 33 → c1s (dr + g) = sa (dr + g) := fun g hg => o1 _ (by omega) (by omega) (by omega) (by omega)
  have eln : c1s dr 0 = nI ln := by rw [show c1s dr = sa dr from odr 0 (by decide)]; exact k6
  rw [eln]
  refine hc _ _ ?_
  refine N_text (d := d + 209) (b := b) hn n07 (by rw [o1 127 (by decide) (by decide) (by decide) (by omega), f1 127 2 (by decide) (by decide) (by decide) (by omega)]; exact t2) (fun j hj => ⟨(hb j hj).1, by rw [o1 128 (by decide) (by decide) (by decide) (by omega), f1 128 j (by decide) (by decide) (by decide) (by omega)]; exact (hb j hj).2.1⟩) (fun ln' s' s8 sb y1 y2 y3 y5 => ?_) (fun e' sb y1 _ _ _ _ => by rw [z1] at y1; cases y1)
  rw [z1] at y1
  cases y1
  obtain ⟨g1, g2⟩ := y5
  have y20 := y2
  obtain ⟨q1, q2, q3, q4, q5, q6⟩ := y20
  have q5 : sb 127 20 = nI ln := q5
  refine N_halves q2 q3 (fun G hG => ?_)
  have hPR := yPR_c z2 z3 y2 (fun c k hc => by rw [zu_o hc, zu_o hc]) hG
  have Go : ∀ c k, ¬ (129 ≤ c ∧ c ≤ 144) → G c k = zu (zu sb 127 28 0) 127 29 (-1) c k := fun c k hc => by rw [hG, if_neg (fun z => hc ⟨z.1, by omega⟩)]
  rw [b161_286, e169, b169_0]
  generalize hj2 : zu (zu (zu (zu G 127 57 0) 127 58 (-1)) 127 47 0) 127 48 0 = H
  have Ho : ∀ c, c ≠ 127 → H c = G c := fun c hc => by rw [← hj2, zu_o hc, zu_o hc, zu_o hc, zu_o hc]
  have Hk : ∀ k, k ≠ 57 → k ≠ 58 → k ≠ 47 → k ≠ 48 → H 127 k = G 127 k := fun k a1 a2 a3 a4 => by rw [← hj2, zu_k a4, zu_k a3, zu_k a2, zu_k a1]
  have hPRH : zPR (fun g => sa (dr + g)) H N' L' T' := zPR_i (fun c h1 h2 => Ho c (by omega)) hPR
  have st := S_starts (d := d + 208 + 190) (pl := dr) (dr := pl) (cp := cp) (cw := cw) (rp := some dr) (K := zK (d + 208 + 191) 169 5 [some (.ref 127)] [] (zK (d + 400) 161 310 [some (.ref 127), some (.int (nI n)), some (.int (nI 6))] [] (Km (some (.int (nI ln)))))) (la := zu la 72 1 (sa (dr + 28) 2).toInt64) (ia := H) (V := fun g => sa (72 + g)) (s := 0) (by decide) hPk hPRH
  refine Eq.mpr st ?_
  rw [kN, b169_5, kN, b161_310, zPM_o (show (127 : Nat) < 147 ∨ 158 < 127 by decide)]
  have e20 : H 127 20 = nI ln := by rw [Hk 20 (by decide) (by decide) (by decide) (by decide), Go 127 20 (by omega), zu_k (by decide), zu_k (by decide)]; exact q5
  rw [e20]
  generalize hj3 : zPM N' 0 (zBeg (fun g => sa (dr + g)) N' (fun g => sa (72 + g))) (sa (dr + 28) 2) H = jf
  have jo : ∀ c, c < 147 ∨ 158 < c → jf c = H c := fun c hc => by rw [← hj3, zPM_o hc]
  have lo : ∀ c k, c < 127 → jf c k = c1s c k := fun c k hc => by rw [jo c (by omega), Ho c (by omega), Go c k (by omega), zu_o (by omega), zu_o (by omega), g1 c k (by omega) (by omega)]
  have j7 : ∀ k, k ≠ 57 → k ≠ 58 → k ≠ 47 → k ≠ 48 → k ≠ 28 → k ≠ 29 → jf 127 k = sb 127 k := fun k a1 a2 a3 a4 a5 a6 => by rw [jo 127 (by omega), Hk k a1 a2 a3 a4, Go 127 k (by omega), zu_k a6, zu_k a5]
  have j7i : ∀ k, ¬ (k = 0 ∨ k = 2 ∨ (19 ≤ k ∧ k ≤ 31)) → k ≠ 57 → k ≠ 58 → k ≠ 47 → k ≠ 48 → jf 127 k = ia 127 k := fun k a0 a1 a2 a3 a4 => by rw [j7 k a1 a2 a3 a4 (by omega) (by omega), g1 127 k (by omega) (by omega), o1 127 (by decide) (by decide) (by decide) (by omega), f1 127 k (by decide) (by decide) (by decide) (by omega)]
  have n28 : jf 127 28 = 0 := by rw [jo 127 (by omega), Hk 28 (by decide) (by decide) (by decide) (by decide), Go 127 28 (by omega), zu_k (by decide), zu_eq]
  have n29 : jf 127 29 = -1 := by rw [jo 127 (by omega), Hk 29 (by decide) (by decide) (by decide) (by decide), Go 127 29 (by omega), zu_eq]
  have n57 : jf 127 57 = 0 := by rw [jo 127 (by omega), ← hj2, zu_k (by decide), zu_k (by decide), zu_k (by decide), zu_eq]
  have n58 : jf 127 58 = -1 := by rw [jo 127 (by omega), ← hj2, zu_k (by decide), zu_k (by decide), zu_eq]
  have n47 : jf 127 47 = 0 := by rw [jo 127 (by omega), ← hj2, zu_k (by decide), zu_eq]
  have n48 : jf 127 48 = 0 := by rw [jo 127 (by omega), ← hj2, zu_eq]
  obtain ⟨d1, d2, d3, d4, d5, d6, d7, d8, d9, d10, d11⟩ := hC
  have c106 : ∀ k, k ≠ 0 → k ≠ 2 → c1s 106 k = sa 106 k := fun k a1 a2 => by rw [← hj1, zu_o (by decide), zu_k a2, zu_k a1, zu_o (by decide), zPW_o (by omega)]
  refine hm _ _ _ _ _ _ _ _ ⟨i2, i1, Ne.symm i3, ⟨0, by decide, ?_, ?_, fun i hi => absurd hi (Nat.not_lt_zero _)⟩, fun k hk => ?_, ?_, ?_, (fun g => sa (dr + g)), N', L', T', 0, zBeg (fun g => sa (dr + g)) N' (fun g => sa (72 + g)), sa (dr + 28) 2, ⟨fun g hg => ?_, hPk, zPR_i (fun c h1 h2 => jo c (by omega)) hPRH, by decide, fun g hg => ?_, zWf_beg hPk, ?_, zu_eq _ _ _ _, ?_, ?_, ?_⟩, ⟨?_, Or.inl n47⟩, ?_, ?_⟩ ?_ ?_
  · rw [lo 2 1 (by decide), o1 2 (by decide) (by decide) (by decide) (by omega)]; exact f2
  · rw [j7 2 (by decide) (by decide) (by decide) (by decide) (by decide) (by decide)]; exact g2
  · rw [lo 4 k (by decide), o1 4 (by decide) (by decide) (by decide) (by omega), f1 4 k (by decide) (by decide) (by decide) (by omega)]; exact i5 k hk
  · rw [lo 1 3 (by decide), o1 1 (by decide) (by decide) (by decide) (by omega), k2, n28]
  · rw [lo 1 4 (by decide), o1 1 (by decide) (by decide) (by decide) (by omega), k3, n29]
  · funext k; rw [lo (dr + g) k (by omega), odr g hg]
  · funext k; rw [lo (72 + g) k (by omega), o72 g hg]
  · rw [← hj3]; exact zHas_M
  · rw [j7i 49 (by omega) (by decide) (by decide) (by decide) (by decide)]; exact d9
  · rw [j7i 50 (by omega) (by decide) (by decide) (by decide) (by decide)]; exact d10
  · rw [j7i 51 (by omega) (by decide) (by decide) (by decide) (by decide)]; exact d11
  · rw [lo 0 6 (by decide), n47, ← hj1, zu_o (by decide), zu_o (by decide), zu_o (by decide), zu_eq]
  · obtain ⟨dm, nx, Ws, x1, x2, x3, x4, x5, x6, x7⟩ := hDe
    refine ⟨0, nx, fun _ => zBeg (fun g => sa (dr + g)) N' (fun g => sa (72 + g)), by decide, x2, ?_, ?_, n48, rfl, fun i hi => absurd hi (Nat.not_lt_zero _)⟩
    · rw [lo 113 1 (by decide), ← hj1, zu_k (by decide), zu_o (by decide), zu_o (by decide), zu_o (by decide), zPW_o (by omega), f1 113 1 (by decide) (by decide) (by decide) (by omega)]; exact x3
    · rw [lo 113 2 (by decide), ← hj1, zu_eq]; rfl
  · refine ⟨0, by decide, ?_, n57, ?_, Or.inl n58, fun k hk => absurd hk (Nat.not_lt_zero _)⟩
    · rw [lo 106 0 (by decide), ← hj1, zu_o (by decide), zu_k (by decide), zu_eq]; rfl
    · rw [lo 106 2 (by decide), n58, ← hj1, zu_o (by decide), zu_eq]
  · funext k; rw [jo 900 (by omega), Ho 900 (by omega), Go 900 k (by omega), zu_o (by omega), zu_o (by omega), g1 900 k (by omega) (by omega), o1 900 (by decide) (by decide) (by decide) (by omega), f1 900 k (by decide) (by decide) (by decide) (by omega)]
  · funext k; rw [jo 901 (by omega), Ho 901 (by omega), Go 901 k (by omega), zu_o (by omega), zu_o (by omega), g1 901 k (by omega) (by omega), o1 901 (by decide) (by decide) (by decide) (by omega), f1 901 k (by decide) (by decide) (by decide) (by omega)]
