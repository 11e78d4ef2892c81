/-! the bank's numbers -/
theorem zdraw1 (x : Int32) : (x.toInt64 * 1103515245 + 12345) &&& 2147483647 = ((x * 1103515245 + 12345) &&& 2147483647).toInt64 := by
  have e1 : (x.toInt64 * 1103515245 + 12345).toInt32 = x * 1103515245 + 12345 := by
    rw [lg_l2i_add, lg_l2i_mul, lg_l2i_i2l]; rfl
  rw [← e1]
  generalize x.toInt64 * 1103515245 + 12345 = A
  rw [pk_and A.toInt32 31 (by decide)]
  have e2 : A.toInt32.toBitVec.toNat = A.toBitVec.toNat % 2 ^ 32 := by
    show (BitVec.signExtend 32 A.toBitVec).toNat = _
    rw [BitVec.signExtend_eq_setWidth_of_le _ (by omega), BitVec.toNat_setWidth]
  rw [e2, nI_l (Nat.mod_lt _ (by decide))]
  apply Int64.toBitVec_inj.mp
  apply BitVec.eq_of_toNat_eq
  rw [Int64.toBitVec_and, BitVec.toNat_and]
  show A.toBitVec.toNat &&& (2 ^ 31 - 1) = (BitVec.ofNat 64 (A.toBitVec.toNat % 2 ^ 32 % 2 ^ 31)).toNat
  rw [Nat.and_two_pow_sub_one_eq_mod, BitVec.toNat_ofNat]
  omega
theorem zdraw2 (x : Int32) : ∃ n : Nat, n < 2 ^ 31 ∧ (x * 1103515245 + 12345) &&& 2147483647 = nI n := pk_andE _ 31 (by decide)
theorem zdraw3 {n : Nat} (h : n < 2 ^ 31) : ((nI n).toInt64 / 65536).toInt32 = nI n >>> (16 &&& 31) := by
  rw [nI_l h, show (65536 : Int64) = lN 65536 from rfl, pk_lDiv (by omega) (by omega) (by omega), pk_shrN h _ 16 (by decide)]
  have : n / 65536 < 2 ^ 31 := by omega
  rw [← nI_l this, lg_l2i_i2l]
theorem zu_comm {α : Type} {f : Nat → Nat → α} {a b c e : Nat} {v u : α} (h : a ≠ c) : zu (zu f a b v) c e u = zu (zu f c e u) a b v := by
  funext x y
  simp only [zu_at]
  by_cases h1 : x = c ∧ y = e
  · rw [if_pos h1, if_neg (fun q => h (q.1.symm.trans h1.1)), if_pos h1]
  · rw [if_neg h1]
    by_cases h2 : x = a ∧ y = b
    · rw [if_pos h2, if_pos h2]
    · rw [if_neg h2, if_neg h2, if_neg h1]
section ZP
variable {d pl dr N L T s : Nat} {cp cw rp : Option Nat} {p ia W : Nat → Nat → Int32} {o : Nat → Int32} {r bn : Int32} {la : Nat → Nat → Int64} {K : Option Value → zHP → Prop}
theorem S_bank (hs : s < 23) (hR : zPR p ia N L T) (hk : zPk p N L T) (hO : zOp p o ia bn) (hK : ∀ r' : Int32, r'.toInt64 = (zBk p o r.toInt64).2 → (r' = r ∨ ¬ r' < 0) → K (some (.int (zBk p o r.toInt64).1)) (zPM N s W r' ia, la, zRA pl dr cp cw rp)) : zWM d 181 [.ref 127, .int (nI s), .int bn] (zPM N s W r ia, la, zRA pl dr cp cw rp) K := by
  obtain ⟨_, _, _, _, o5, o1, oo⟩ := hO
  obtain ⟨a, ha, ea⟩ : ∃ a, a ≤ 100 ∧ p 28 1 = nI a := hk.2.2.2.2.2.2.2.2.2.2.1
  have e4 : ia 129 4 = nI a := by rw [hR.2.2.2.2.1, ea]
  rw [e181, b181_0, zR_127 (by decide), zR_127 (by decide), zg (by omega) (by omega), zcln (by omega), zR148, zPM_u148, zR148, e4]
  unfold zBk at hK
  rw [ea] at hK
  have look : (if nI a < 50 then K (some (.int 0)) (zPM N s W r ia, la, zRA pl dr cp cw rp) else K (some (.int 1)) (zPM N s W r ia, la, zRA pl dr cp cw rp)) = K (some (.int (if nI a < 50 then 0 else 1))) (zPM N s W r ia, la, zRA pl dr cp cw rp) := zKifI.symm
  by_cases t5 : ia 127 49 = 5
  · rw [if_neg (fun q => q t5)]
    have e3 := o5 t5
    rw [if_neg (by rw [e3]; decide), if_pos e3] at hK
    exact hK r rfl (Or.inl rfl)
  · rw [if_pos t5]
    by_cases t1 : ia 127 49 = 1
    · rw [if_neg (fun q => q t1)]
      have e3 := o1 t1
      rw [if_neg (by rw [e3]; decide), if_neg (by rw [e3]; decide), if_pos e3] at hK
      exact hK r rfl (Or.inl rfl)
    · rw [if_pos t1]
      have e3 := oo t5 t1
      by_cases hb : bn = 0
      · rw [if_pos hb, look]
        rw [if_pos (e3.1 hb)] at hK
        exact hK r rfl (Or.inl rfl)
      · rw [if_neg hb]
        have e3 := e3.2 hb
        rw [if_neg (by rw [e3]; decide), if_neg (by rw [e3]; decide), if_neg (by rw [e3]; decide)] at hK
        by_cases a0 : a = 0
        · subst a0
          rw [if_pos (by decide), if_pos (by decide)]
          rw [if_neg (by decide), if_pos (by decide)] at hK
          exact hK r rfl (Or.inl rfl)
        · rw [if_neg (qne_0 a0 (by omega))]
          by_cases a1 : a = 100
          · subst a1
            rw [if_neg (fun q => q (by decide)), if_neg (by decide)]
            rw [if_pos (by decide)] at hK
            exact hK r rfl (Or.inl rfl)
          · rw [if_pos (qne_100 a1 (by omega))]
            rw [if_neg (qne_100 a1 (by omega)), if_neg (qnle_0 (by omega) (by omega))] at hK
            rw [zdraw1] at hK
            obtain ⟨n, hn, en⟩ := zdraw2 r
            rw [en] at hK ⊢
            rw [zdraw3 hn] at hK
            have hK2 := hK (nI n) rfl (Or.inr (nI_pos hn))
            dsimp only at hK2
            rw [zKifI (K := K)] at hK2
            exact hK2
theorem S_wrM {k b h : Nat} (hs : s < 23) (hN : N ≤ 6) (hT : T ≤ 12) (hkT : k < T) (hb : b < N) (hh : h < N) (hR : zPR p ia N L T) (e0 : p (16 + k) 0 = nI b) (e1 : p (16 + k) 1 = nI h) (e2 : p (16 + k) 2 = W 0 0) : zWM (d + 2) 180 [.ref 127, .int (nI s), .int (nI k)] (zPM N s W r ia, la, zRA pl dr cp cw rp) K = K none (zPM N s (zWrite p k W) r ia, la, zRA pl dr cp cw rp) := by
  have hrow := hR.2.2.2.2.2.2.2.2.2.2.2.1
  have htr := hR.2.2.2.2.2.2.2.2.1
  obtain ⟨w0, w1, w2⟩ := hrow k hkT
  rw [e180, b180_0, zg (by omega) (by omega), zR_127 (by decide), zR_127 (by decide), zcln (by omega), w0, w1, e0, e1, S_holderM hs (by omega), kS, b180_29, b180_39, b180_39, m12]
  unfold zWrite
  simp only [e0, e1, zct_n (show h < 100000 by omega), zct_n (show b < 100000 by omega)]
  generalize hg : decide (zHd W h = nI b) = good
  have ent : (if ¬ zHd W h = nI b then (if (0 : Int32) = 0 then (vp_in (nI (12 * s + k)) 276 ∧ zWP (d + 1 + 1) 180 61 [some (.ref 127), some (.int (nI s)), some (.int (nI k)), some (.int (nI h)), some (.int (nI b)), some (.int (nI (12 * s + k))), some (.int 0), some (.int 0), none] [] (zu (zPM N s W r ia) 157 (nI (12 * s + k)).toNatClampNeg 2, la, zRA pl dr cp cw rp) K) else (vp_in (nI (12 * s + k)) 276 ∧ zWP (d + 1 + 1) 180 61 [some (.ref 127), some (.int (nI s)), some (.int (nI k)), some (.int (nI h)), some (.int (nI b)), some (.int (nI (12 * s + k))), some (.int 0), some (.int 0), none] [] (zu (zPM N s W r ia) 157 (nI (12 * s + k)).toNatClampNeg 1, la, zRA pl dr cp cw rp) K)) else (if (1 : Int32) = 0 then (vp_in (nI (12 * s + k)) 276 ∧ zWP (d + 1 + 1) 180 61 [some (.ref 127), some (.int (nI s)), some (.int (nI k)), some (.int (nI h)), some (.int (nI b)), some (.int (nI (12 * s + k))), some (.int 1), some (.int 0), none] [] (zu (zPM N s W r ia) 157 (nI (12 * s + k)).toNatClampNeg 2, la, zRA pl dr cp cw rp) K) else (vp_in (nI (12 * s + k)) 276 ∧ zWP (d + 1 + 1) 180 61 [some (.ref 127), some (.int (nI s)), some (.int (nI k)), some (.int (nI h)), some (.int (nI b)), some (.int (nI (12 * s + k))), some (.int 1), some (.int 0), none] [] (zu (zPM N s W r ia) 157 (nI (12 * s + k)).toNatClampNeg 1, la, zRA pl dr cp cw rp) K))) = zWP (d + 2) 180 61 [some (.ref 127), some (.int (nI s)), some (.int (nI k)), some (.int (nI h)), some (.int (nI b)), some (.int (nI (12 * s + k))), some (.int (if good = true then 1 else 0)), some (.int (nI 0)), none] [] (zu (zPM N s W r ia) 157 (12 * s + k) (if good = true then 1 else 2), la, zRA pl dr cp cw rp) K := by
    subst hg
    rw [zg (by omega) (by omega), zg (by omega) (by omega), zg (by omega) (by omega), zg (by omega) (by omega), zcln (by omega)]
    by_cases c : zHd W h = nI b
    · simp only [c, not_true, if_false, decide_true, if_true]; rfl
    · simp only [c, not_false_eq_true, if_true, decide_false, Bool.false_eq_true, if_false]; rfl
  refine Eq.trans ent ?_
  obtain ⟨gv, hgv, hg0⟩ : ∃ gv : Int32, gv = (if good = true then 1 else 2) ∧ ¬ gv = 0 := by
    cases good
    · exact ⟨2, rfl, by decide⟩
    · exact ⟨1, rfl, by decide⟩
  rw [← hgv]
  have lp : ∀ (j : Nat) (ja : Nat → Nat → Int32) (a8 : Option Value), j < 3 → (ja 152 = zPM N s W r ia 152) → (ja 131 = ia 131) → ∃ a8', zWP (d + 2) 180 61 [some (.ref 127), some (.int (nI s)), some (.int (nI k)), some (.int (nI h)), some (.int (nI b)), some (.int (nI (12 * s + k))), some (.int (if good = true then 1 else 0)), some (.int (nI j)), a8] [] (ja, la, zRA pl dr cp cw rp) K = zWP (d + 2) 180 61 [some (.ref 127), some (.int (nI s)), some (.int (nI k)), some (.int (nI h)), some (.int (nI b)), some (.int (nI (12 * s + k))), some (.int (if good = true then 1 else 0)), some (.int (nI (j + 1))), a8'] [] (zu ja 158 (36 * s + (3 * k + j)) (if good = true then W 2 (3 * h + j) else (W 2 (3 * h + j) + 1000 * p 2 (3 * b + j)) / 2), la, zRA pl dr cp cw rp) K := by
    intro j ja a8 hj h1 h2
    refine ⟨some (.int (W 2 (3 * h + j))), ?_⟩
    rw [b180_61, if_neg (z3le hj), m6, m3, m3, m3, zg (by omega) (by omega), zg (by omega) (by omega), zg (by omega) (by omega), zg (by omega) (by omega), zcln (by omega), zcln (by omega), zcln (by omega), h1, zR152 hh hN hj, h2, htr _ (by omega), ns, show 3 * (12 * s + k) + j = 36 * s + (3 * k + j) by omega]
    cases good
    · simp only [Bool.false_eq_true, if_false, if_true]
    · simp only [if_true]
      rfl
  obtain ⟨x1, l1⟩ := lp 0 (zu (zPM N s W r ia) 157 (12 * s + k) gv) none (by omega) (zu_o (by decide)) (by rw [zu_o (by decide), zR_127 (by decide)])
  obtain ⟨x2, l2⟩ := lp 1 (zu (zu (zPM N s W r ia) 157 (12 * s + k) gv) 158 (36 * s + (3 * k + 0)) (if good = true then W 2 (3 * h + 0) else (W 2 (3 * h + 0) + 1000 * p 2 (3 * b + 0)) / 2)) x1 (by omega) (by rw [zu_o (by decide), zu_o (by decide)]) (by rw [zu_o (by decide), zu_o (by decide), zR_127 (by decide)])
  obtain ⟨x3, l3⟩ := lp 2 (zu (zu (zu (zPM N s W r ia) 157 (12 * s + k) gv) 158 (36 * s + (3 * k + 0)) (if good = true then W 2 (3 * h + 0) else (W 2 (3 * h + 0) + 1000 * p 2 (3 * b + 0)) / 2)) 158 (36 * s + (3 * k + 1)) (if good = true then W 2 (3 * h + 1) else (W 2 (3 * h + 1) + 1000 * p 2 (3 * b + 1)) / 2)) x2 (by omega) (by rw [zu_o (by decide), zu_o (by decide), zu_o (by decide)]) (by rw [zu_o (by decide), zu_o (by decide), zu_o (by decide), zR_127 (by decide)])
  rw [l1, l2, l3, show 3 * k + 0 = 3 * k from rfl, zPM_wr (show k < 12 by omega) hg0]
  have eW1 : zit (zWr1 p k b h good) 3 W = zu (zu (zu W 9 (3 * k) (if good = true then W 2 (3 * h + 0) else (W 2 (3 * h + 0) + 1000 * p 2 (3 * b + 0)) / 2)) 9 (3 * k + 1) (if good = true then W 2 (3 * h + 1) else (W 2 (3 * h + 1) + 1000 * p 2 (3 * b + 1)) / 2)) 9 (3 * k + 2) (if good = true then W 2 (3 * h + 2) else (W 2 (3 * h + 2) + 1000 * p 2 (3 * b + 2)) / 2) := by
    show zWr1 p k b h good 2 (zWr1 p k b h good 1 (zWr1 p k b h good 0 W)) = _
    unfold zWr1
    simp only [zu_ne (show (2 : Nat) ≠ 9 by decide)]
    rfl
  rw [← eW1]
  have e6 : ∀ j, zit (zWr1 p k b h good) 3 W 6 j = W 6 j := by
    intro j
    rw [eW1, zu_o (by decide), zu_o (by decide), zu_o (by decide)]
  have e00 : zit (zWr1 p k b h good) 3 W 0 0 = W 0 0 := by
    rw [eW1, zu_o (by decide), zu_o (by decide), zu_o (by decide)]
  generalize hW1 : zit (zWr1 p k b h good) 3 W = W1 at *
  rw [b180_61, if_pos (by decide)]
  have fin : K none (zPM N s (if zany (zClP p W k) k = true then zu (zu W1 6 k gv) 7 k 1 else zu W1 6 k gv) r ia, la, zRA pl dr cp cw rp) = K none (zPM N s (zWr3 good k (zWr2 (zany (zClP p W k) k) k W1)) r ia, la, zRA pl dr cp cw rp) := by
    congr 2
    unfold zWr3 zWr2
    cases zany (zClP p W k) k
    · cases good
      · simp only [Bool.false_eq_true, if_false] at hgv ⊢
        rw [zPM_i11, hgv]
      · simp only [Bool.false_eq_true, if_false, if_true] at hgv ⊢
        rw [hgv]
    · cases good
      · simp only [Bool.false_eq_true, if_false, if_true] at hgv ⊢
        rw [zPM_i11, zu_comm (a := 0) (c := 6) (by decide), zPM_i12, zu_comm (a := 6) (c := 7) (by decide), hgv]
      · simp only [Bool.false_eq_true, if_false, if_true] at hgv ⊢
        rw [zu_comm (a := 0) (c := 6) (by decide), zPM_i12, zu_comm (a := 6) (c := 7) (by decide), hgv]
  rw [← fin]
  have loop : ∀ (n l : Nat) (a8 : Option Value), l + n = k → zWP (d + 2) 180 137 [some (.ref 127), some (.int (nI s)), some (.int (nI k)), some (.int (nI h)), some (.int (nI b)), some (.int (nI (12 * s + k))), some (.int (if good = true then 1 else 0)), some (.int (nI l)), a8] [] (zPM N s (if zany (zClP p W k) l = true then zu (zu W1 6 k gv) 7 k 1 else zu W1 6 k gv) r ia, la, zRA pl dr cp cw rp) K = K none (zPM N s (if zany (zClP p W k) k = true then zu (zu W1 6 k gv) 7 k 1 else zu W1 6 k gv) r ia, la, zRA pl dr cp cw rp) := by
    intro n
    induction n with
    | zero =>
      intro l a8 hl
      rw [b180_137, if_pos (nI_le1 (by omega) (by omega)), show l = k by omega]
    | succ n ih =>
      intro l a8 hl
      have ih := fun a8 => ih (l + 1) a8 (by omega)
      obtain ⟨y0, y1, y2⟩ := hrow l (by omega)
      have eV : ∀ c : Bool, (if c = true then zu (zu W1 6 k gv) 7 k 1 else zu W1 6 k gv) 0 0 = W 0 0 ∧ (if c = true then zu (zu W1 6 k gv) 7 k 1 else zu W1 6 k gv) 6 l = W 6 l := by
        intro c
        cases c
        · simp only [Bool.false_eq_true, if_false]
          exact ⟨by rw [zu_o (by decide), e00], by rw [zu_k (by omega), e6]⟩
        · simp only [if_true]
          exact ⟨by rw [zu_o (by decide), zu_o (by decide), e00], by rw [zu_o (by decide), zu_k (by omega), e6]⟩
      have eC : zany (zClP p W k) (l + 1) = (zany (zClP p W k) l || zClP p W k l) := rfl
      rw [b180_137, if_neg (nI_nle1 (by omega) (by omega)), zg (by omega) (by omega), zg (by omega) (by omega), m12, zg (by omega) (by omega), zcln (by omega), zcln (by omega), zcln (by omega), zR_127 (c := 140) (by decide), zR_127 (c := 139) (by decide), zR147, zR157 (by omega), y1, y2, b180_189, b180_190, b180_190, (eV _).1, (eV _).2, if_pos (show (0 : Int32) = 0 from rfl), if_neg (show ¬ (1 : Int32) = 0 by decide), zg (by omega) (by omega), zcln (by omega), zR150, ns, zPM_u150 (by omega), ← e2, ← e1]
      by_cases c1 : p (16 + l) 2 = p (16 + k) 2
      · rw [if_neg (fun q => q c1)]
        by_cases c2 : p (16 + l) 1 = p (16 + k) 1
        · rw [if_neg (fun q => q c2)]
          by_cases c3 : W 6 l = 0
          · rw [if_pos c3, e1]
            have : zClP p W k l = false := by unfold zClP; exact decide_eq_false (fun q => q.2.2 c3)
            rw [eC, this, Bool.or_false] at ih
            exact ih _
          · rw [if_neg c3, e1]
            have : zClP p W k l = true := by unfold zClP; exact decide_eq_true ⟨c2, c1, c3⟩
            rw [eC, this, Bool.or_true, if_pos rfl] at ih
            have eu : zu (if zany (zClP p W k) l = true then zu (zu W1 6 k gv) 7 k 1 else zu W1 6 k gv) 7 k 1 = zu (zu W1 6 k gv) 7 k 1 := by
              cases zany (zClP p W k) l
              · simp only [Bool.false_eq_true, if_false]
              · simp only [if_true]; rw [zu_zu]
            rw [eu]
            exact ih _
        · rw [if_pos c2, e1]
          have : zClP p W k l = false := by unfold zClP; exact decide_eq_false (fun q => c2 q.1)
          rw [eC, this, Bool.or_false] at ih
          exact ih _
      · rw [if_pos c1, e1]
        have : zClP p W k l = false := by unfold zClP; exact decide_eq_false (fun q => c1 q.2.1)
        rw [eC, this, Bool.or_false] at ih
        exact ih _
  exact loop k 0 x3 (by omega)
end ZP
