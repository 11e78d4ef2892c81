/-! feed -/
theorem zb8 (x : Int32) : (x &&& 255).toInt8 = x.toInt8 := by
  apply Int8.toBitVec_inj.mp
  show BitVec.signExtend 8 (x &&& 255).toBitVec = BitVec.signExtend 8 x.toBitVec
  rw [BitVec.signExtend_eq_setWidth_of_le _ (by omega), BitVec.signExtend_eq_setWidth_of_le _ (by omega)]
  apply BitVec.eq_of_toNat_eq
  rw [BitVec.toNat_setWidth, BitVec.toNat_setWidth, Int32.toBitVec_and, BitVec.toNat_and]
  show (x.toBitVec.toNat &&& (2 ^ 8 - 1)) % 2 ^ 8 = x.toBitVec.toNat % 2 ^ 8
  rw [Nat.and_two_pow_sub_one_eq_mod, Nat.mod_mod]
/-- the j-th byte of v -/
def zby (v : Int32) (j : Nat) : Int32 := v >>> (nI (24 - 8 * j) &&& 31)
section ZP
variable {d pl dr : Nat} {cp cw rp : Option Nat} {ia : Nat → Nat → Int32} {la : Nat → Nat → Int64} {K : Option Value → zHP → Prop}
theorem S_put {v : Int32} {n : Nat} (hn : n + 4 ≤ 700) (e : ia 2 1 = nI n) (hK : ∀ ja : Nat → Nat → Int32, (∀ c k, ja c k = if c = 2 ∧ k = 1 then nI (n + 4) else if c = 3 ∧ n ≤ k ∧ k < n + 4 then (zby v (k - n)).toInt8.toInt32 else ia c k) → K none (ja, la, zRA pl dr cp cw rp)) : zWM d 57 [.ref 2, .int v] (ia, la, zRA pl dr cp cw rp) K := by
  have step : ∀ (j : Nat) (ja : Nat → Nat → Int32), j < 4 → (∀ c k, ja c k = if c = 2 ∧ k = 1 then nI (n + j) else if c = 3 ∧ n ≤ k ∧ k < n + j then (zby v (k - n)).toInt8.toInt32 else ia c k) → (∀ ja : Nat → Nat → Int32, (∀ c k, ja c k = if c = 2 ∧ k = 1 then nI (n + (j + 1)) else if c = 3 ∧ n ≤ k ∧ k < n + (j + 1) then (zby v (k - n)).toInt8.toInt32 else ia c k) → zWP d 57 3 [some (.ref 2), some (.int v), some (.int (nI (24 - 8 * j) + -8))] [] (ja, la, zRA pl dr cp cw rp) K) → zWP d 57 3 [some (.ref 2), some (.int v), some (.int (nI (24 - 8 * j)))] [] (ja, la, zRA pl dr cp cw rp) K := by
    intro j ja hj hja hnx
    have e21 : ja 2 1 = nI (n + j) := by rw [hja, if_pos ⟨rfl, rfl⟩]
    rw [b57_3, if_neg (nI_pos (by omega)), e21, if_neg (show ¬ (700 : Int32) ≤ nI (n + j) from nI_nle1 (a := 700) (by omega) (by omega)), zg (by omega) (by omega), zcln (by omega), pk_vb, zu_o (show (2 : Nat) ≠ 3 by decide), e21, ns]
    refine hnx _ (fun c k => ?_)
    rw [zu_at]
    by_cases c1 : c = 2 ∧ k = 1
    · rw [if_pos c1, if_pos c1]; rfl
    · rw [if_neg c1, if_neg c1, zu_at, hja, if_neg c1]
      by_cases c2 : c = 3 ∧ k = n + j
      · rw [if_pos c2, if_pos (by omega), show k - n = j by omega]; rfl
      · rw [if_neg c2]
        by_cases c3 : c = 3 ∧ n ≤ k ∧ k < n + j
        · rw [if_pos c3, if_pos (by omega)]
        · rw [if_neg c3, if_neg (by omega)]
  rw [e57, b57_0]
  refine step 0 ia (by omega) (fun c k => ?_) (fun j1 h1 => ?_)
  · by_cases c1 : c = 2 ∧ k = 1
    · rw [if_pos c1, c1.1, c1.2]; exact e
    · rw [if_neg c1, if_neg (by omega)]
  refine step 1 j1 (by omega) h1 (fun j2 h2 => ?_)
  refine step 2 j2 (by omega) h2 (fun j3 h3 => ?_)
  refine step 3 j3 (by omega) h3 (fun j4 h4 => ?_)
  show zWP d 57 3 [some (.ref 2), some (.int v), some (.int (-8))] [] (j4, la, zRA pl dr cp cw rp) K
  rw [b57_3, if_pos (by decide)]
  exact hK j4 h4
end ZP
theorem T_feed {d pl dr : Nat} {cp cw rp : Option Nat} {ia : Nat → Nat → Int32} {la : Nat → Nat → Int64} {Kc : Option Value → zHP → Prop} {Km : Option Value → Option Value → zHP → Prop} {x1 x2 x3 x4 x5 : Int32} (hI : zInv pl dr ia la) (hc : ∀ v hp, zWM (d + 400) 129 [.ref 127, .int x1, .int x2, .int x3, .int x4, .int x5] hp (Km v) → Kc v hp) (hm : zEndK ia Km) : zWM (d + 400) 76 [.ref 0, .int x1, .int x2, .int x3, .int x4, .int x5] (ia, la, zRA pl dr cp cw rp) Kc := by
  have fin := zfin hI hm
  obtain ⟨i1, i2, i3, i4, i5, i6, i7, p, N, L, T, D, W, r, hC, hM, hDe, hNo⟩ := hI
  have hN6 : N ≤ 6 := hC.2.1.2.1
  have hT12 : T ≤ 12 := hC.2.1.2.2.2.2.2.1
  have fin2 : ∀ v v2 : Option Value, v2 = v → Km v v2 (zu ia 127 0 0, la, zRA pl dr cp cw rp) := fun v v2 e => fin v v2 _ _ _ _ _ (zFr_0 zFr_r) e
  obtain ⟨n, n7, t1, t2, t3⟩ := i4
  rw [e76, b76_0, t1]
  by_cases c1 : n ≤ 680
  case neg =>
    rw [if_neg (show ¬ nI n ≤ 680 from nI_nle1 (b := 680) (by omega) (by omega))]
    refine hc _ _ ?_
    rw [e129, b129_0, zu_k (by decide), t2, if_neg (show ¬ nI n ≤ 680 from nI_nle1 (b := 680) (by omega) (by omega))]
    exact fin2 _ _ rfl
  rw [if_pos (show nI n ≤ 680 from nI_le1 (b := 680) c1 (by omega))]
  refine S_put (n := n) (by omega) t1 (fun j1 h1 => ?_)
  rw [kN, b76_28]
  refine S_put (n := n + 4) (by omega) (by rw [h1, if_pos ⟨rfl, rfl⟩]) (fun j2 h2 => ?_)
  rw [kN, b76_34]
  refine S_put (n := n + 8) (by omega) (by rw [h2, if_pos ⟨rfl, rfl⟩]) (fun j3 h3 => ?_)
  rw [kN, b76_40]
  refine S_put (n := n + 12) (by omega) (by rw [h3, if_pos ⟨rfl, rfl⟩]) (fun j4 h4 => ?_)
  rw [kN, b76_47]
  refine S_put (n := n + 16) (by omega) (by rw [h4, if_pos ⟨rfl, rfl⟩]) (fun j5 h5 => ?_)
  have e21 : j5 2 1 = nI (n + 20) := by rw [h5, if_pos ⟨rfl, rfl⟩]
  rw [kN, b76_54, e21]
  obtain ⟨vv, hvv⟩ : ∃ vv : Nat → Int32, vv = fun k => if k < 4 then x1 else if k < 8 then x2 else if k < 12 then x3 else if k < 16 then x4 else x5 := ⟨_, rfl⟩
  have c3 : ∀ k, k < 20 → j5 3 (n + k) = (zby (vv k) (k % 4)).toInt8.toInt32 := by
    intro k hk
    rw [hvv]
    dsimp only
    rw [h5, if_neg (by omega)]
    by_cases q4 : 16 ≤ k
    · rw [if_pos (by omega), if_neg (by omega), if_neg (by omega), if_neg (by omega), if_neg (by omega), show n + k - (n + 16) = k % 4 by omega]
    rw [if_neg (by omega), h4, if_neg (by omega)]
    by_cases q3 : 12 ≤ k
    · rw [if_pos (by omega), if_neg (by omega), if_neg (by omega), if_neg (by omega), if_pos (by omega), show n + k - (n + 12) = k % 4 by omega]
    rw [if_neg (by omega), h3, if_neg (by omega)]
    by_cases q2 : 8 ≤ k
    · rw [if_pos (by omega), if_neg (by omega), if_neg (by omega), if_pos (by omega), show n + k - (n + 8) = k % 4 by omega]
    rw [if_neg (by omega), h2, if_neg (by omega)]
    by_cases q1 : 4 ≤ k
    · rw [if_pos (by omega), if_neg (by omega), if_pos (by omega), show n + k - (n + 4) = k % 4 by omega]
    rw [if_neg (by omega), h1, if_neg (by omega), if_pos (by omega), if_pos (by omega), show n + k - n = k % 4 by omega]
  have oth : ∀ c k, ¬ (c = 2 ∧ k = 1) → ¬ (c = 3 ∧ n ≤ k) → j5 c k = ia c k := by
    intro c k q1 q2
    rw [h5, if_neg q1, if_neg (by omega), h4, if_neg q1, if_neg (by omega), h3, if_neg q1, if_neg (by omega), h2, if_neg q1, if_neg (by omega), h1, if_neg q1, if_neg (by omega)]
  refine hc _ _ ?_
  have e72 : zu j5 127 0 0 127 2 = nI n := by rw [zu_k (by decide), oth 127 2 (by omega) (by omega)]; exact t2
  rw [e129, b129_0, e72, if_pos (show nI n ≤ 680 from nI_le1 (b := 680) c1 (by omega))]
  have lp : ∀ (m k : Nat) (ja : Nat → Nat → Int32) a7, k + m = 20 → ja 127 2 = nI n → (∀ c i, ¬ (c = 128 ∧ n ≤ i) → ja c i = zu j5 127 0 0 c i) → (∀ i, i < k → ja 128 (n + i) = zby (vv i) (i % 4) &&& 255) → zWP (d + 400) 129 20 [some (.ref 127), some (.int x1), some (.int x2), some (.int x3), some (.int x4), some (.int x5), some (.int (nI k)), a7] [] (ja, la, zRA pl dr cp cw rp) (Km (some (.int (nI (n + 20))))) := by
    intro m
    induction m with
    | zero =>
      intro k ja a7 hk g1 g2 g3
      have ek : k = 20 := by omega
      subst ek
      rw [b129_20, if_pos (by decide), zu_eq, g1, show nI n + 20 = nI (n + 20) by rw [show (20 : Int32) = nI 20 from rfl, nI_add]]
      have hF : zFG (fun g => g = 0 ∨ g = 1) ia (zu ja 127 2 (nI (n + 20))) := by
        refine zFG_u (Or.inr rfl) (fun c i q => ?_)
        by_cases e1 : c = 128
        · subst e1; exact absurd (Or.inr rfl) q
        rw [g2 c i (by omega), zu_at]
        by_cases e2 : c = 127 ∧ i = 0
        · rw [e2.1, e2.2] at q; exact absurd (Or.inl rfl) q
        rw [if_neg e2]
        by_cases e3 : c = 2
        · subst e3; exact absurd (Or.inr rfl) q
        by_cases e4 : c = 3
        · subst e4; exact absurd (Or.inr rfl) q
        exact oth c i (by omega) (by omega)
      have low : ∀ c i, c ≠ 127 → c ≠ 128 → zu ja 127 2 (nI (n + 20)) c i = j5 c i := fun c i h1 h2 => by rw [zu_o h1, g2 c i (by omega), zu_o h1]
      refine hm _ _ _ _ _ _ _ _ (zInv_mk i1 i2 i3 ⟨⟨n + 20, by omega, by rw [low 2 1 (by decide) (by decide)]; exact e21, zu_eq _ _ _ _, fun i hi => ?_⟩, fun k hk => ?_, ?_, ?_⟩ (zCore_e i1 hF (by decide) (by decide) rfl hC) (zImg_e hF (by decide) rfl hM) (zDeed_e hF (by decide) hDe) (zNote_e hF (by decide) hNo)) (zFG_9 hF (by decide)).1 (zFG_9 hF (by decide)).2
      · rw [low 3 i (by decide) (by decide), zu_o (by decide)]
        by_cases q : i < n
        · obtain ⟨b, hb, b1, b2⟩ := t3 i q
          refine ⟨b, hb, ?_, ?_⟩
          · rw [g2 128 i (by omega), zu_o (by decide), oth 128 i (by omega) (by omega)]; exact b1
          · rw [oth 3 i (by omega) (by omega)]; exact b2
        · obtain ⟨k, rfl⟩ : ∃ k, i = n + k := ⟨i - n, by omega⟩
          obtain ⟨b, hb, eb⟩ := pk_andE (zby (vv k) (k % 4)) (m := 255) 8 (by decide)
          refine ⟨b, hb, by rw [g3 k (by omega), eb], ?_⟩
          rw [c3 k (by omega), ← eb, zb8]
      · rw [low 4 k (by decide) (by decide), oth 4 k (by omega) (by omega)]; exact i5 k hk
      · rw [low 1 3 (by decide) (by decide), oth 1 3 (by omega) (by omega), zu_k (by decide), g2 127 28 (by omega), zu_k (by decide), oth 127 28 (by omega) (by omega)]; exact i6
      · rw [low 1 4 (by decide) (by decide), oth 1 4 (by omega) (by omega), zu_k (by decide), g2 127 29 (by omega), zu_k (by decide), oth 127 29 (by omega) (by omega)]; exact i7
    | succ m ih =>
      intro k ja a7 hk g1 g2 g3
      have e73 : ∀ a7', zWP (d + 400) 129 20 [some (.ref 127), some (.int x1), some (.int x2), some (.int x3), some (.int x4), some (.int x5), some (.int (nI k)), a7'] [] (ja, la, zRA pl dr cp cw rp) (Km (some (.int (nI (n + 20))))) = zWP (d + 400) 129 73 [some (.ref 127), some (.int x1), some (.int x2), some (.int x3), some (.int x4), some (.int x5), some (.int (nI k)), a7'] [.int (vv k)] (ja, la, zRA pl dr cp cw rp) (Km (some (.int (nI (n + 20))))) := by
        intro a7'
        rw [hvv]
        dsimp only
        rw [b129_20, if_neg (show ¬ (20 : Int32) ≤ nI k from nI_nle1 (a := 20) (by omega) (by omega))]
        by_cases q1 : k < 4
        · rw [if_neg (show ¬ (4 : Int32) ≤ nI k from nI_nle1 (a := 4) q1 (by omega)), if_pos q1]
        rw [if_pos (show (4 : Int32) ≤ nI k from nI_le1 (a := 4) (by omega) (by omega)), if_neg q1]
        by_cases q2 : k < 8
        · rw [if_neg (show ¬ (8 : Int32) ≤ nI k from nI_nle1 (a := 8) q2 (by omega)), if_pos q2]
        rw [if_pos (show (8 : Int32) ≤ nI k from nI_le1 (a := 8) (by omega) (by omega)), if_neg q2]
        by_cases q3 : k < 12
        · rw [if_neg (show ¬ (12 : Int32) ≤ nI k from nI_nle1 (a := 12) q3 (by omega)), if_pos q3]
        rw [if_pos (show (12 : Int32) ≤ nI k from nI_le1 (a := 12) (by omega) (by omega)), if_neg q3]
        by_cases q4 : k < 16
        · rw [if_neg (show ¬ (16 : Int32) ≤ nI k from nI_nle1 (a := 16) q4 (by omega)), if_pos q4]
        rw [if_pos (show (16 : Int32) ≤ nI k from nI_le1 (a := 16) (by omega) (by omega)), if_neg q4]
      have ec : (24 : Int32) - 8 * (nI k - nI k / 4 * 4) = nI (24 - 8 * (k % 4)) := by
        rw [show (4 : Int32) = nI 4 from rfl, pk_rem (by omega) (by omega) (by omega), show (8 : Int32) = nI 8 from rfl, pk_mul, show (24 : Int32) = nI 24 from rfl, pk_sub (by omega)]
      rw [e73, b129_73, g1, nI_add, zg (by omega) (by omega), zcln (by omega), ec, ns]
      refine ih (k + 1) _ _ (by omega) (by rw [zu_o (by decide)]; exact g1) (fun c i q => ?_) (fun i hi => ?_)
      · rw [zu_at, if_neg (by omega)]; exact g2 c i q
      · rw [zu_at]
        by_cases e : i = k
        · rw [if_pos ⟨rfl, by omega⟩, e]; rfl
        · rw [if_neg (by omega)]; exact g3 i (by omega)
  exact lp 20 0 _ none (by omega) e72 (fun c i _ => rfl) (fun i hi => by omega)
