/-! auction, ring, rests -/
def zBid (W p : Nat → Nat → Int32) (h q : Nat) : Int32 := if 0 < (if 99 - zds (W 2) (p 2) (3 * h) (3 * q) / 1000 < W 1 q then 99 - zds (W 2) (p 2) (3 * h) (3 * q) / 1000 else W 1 q) then (if 99 - zds (W 2) (p 2) (3 * h) (3 * q) / 1000 < W 1 q then 99 - zds (W 2) (p 2) (3 * h) (3 * q) / 1000 else W 1 q) else 0
theorem zmx0 (m : Int32) : ¬ (if 0 < m then m else 0) < 0 := by
  by_cases c : 0 < m
  · rw [if_pos c]
    exact fun z => (show ¬ (0 : Int32) < 0 by decide) (Int32.lt_trans c z)
  · rw [if_neg c]
    decide
theorem zBid_0 {W p : Nat → Nat → Int32} {h q : Nat} : ¬ zBid W p h q < 0 := zmx0 _
/-- the highest bidder so far -/
def zHb (P : Nat → Bool) (b : Nat → Int32) (i : Nat) (o : Option Nat) : Option Nat := if P i = true then (match o with | none => some i | some j => if b i ≤ b j then some j else some i) else o
theorem zHb_lt {P : Nat → Bool} {b : Nat → Int32} : ∀ n j : Nat, zit (zHb P b) n none = some j → j < n ∧ P j = true := by
  intro n
  induction n with
  | zero => intro j h; exact absurd h (by simp [zit])
  | succ n ih =>
    intro j h
    have h : zHb P b n (zit (zHb P b) n none) = some j := h
    generalize hv : zit (zHb P b) n none = o at h ih
    unfold zHb at h
    by_cases hp : P n = true
    · rw [if_pos hp] at h
      cases o with
      | none =>
        have e : n = j := Option.some.inj h
        subst e
        exact ⟨by omega, hp⟩
      | some k =>
        dsimp only at h
        have ik := ih k rfl
        by_cases c : b n ≤ b k
        · rw [if_pos c] at h
          have e : k = j := Option.some.inj h
          subst e
          exact ⟨by omega, ik.2⟩
        · rw [if_neg c] at h
          have e : n = j := Option.some.inj h
          subst e
          exact ⟨by omega, hp⟩
    · rw [if_neg hp] at h
      subst h
      have := ih j rfl
      exact ⟨by omega, this.2⟩
def zpay (b : Nat → Int32) (o : Option Nat) : Int32 := match o with | none => 0 | some k => b k
def zen (v : Int32) (o : Option Nat) : Int32 := match o with | none => v | some j => nI j
section ZP
variable {d pl dr N L T D s : Nat} {cp cw rp : Option Nat} {p ia W V : Nat → Nat → Int32} {o : Nat → Int32} {r bn x : Int32} {la : Nat → Nat → Int64} {K : Option Value → zHP → Prop}
theorem S_bid (hpl : zIsP pl) (hC : zCore pl p N L T D W r ia la) {h q : Nat} (hh : h < 6) (hq : q < 6) : zWM (d + 6) 102 [.ref 0, .int (nI h), .int (nI q)] (ia, la, zRA pl dr cp cw rp) K = K (some (.int (zBid W p h q))) (ia, la, zRA pl dr cp cw rp) := by
  rw [e102, b102_0, S_dN hpl hC hh hq, kS, b102_15, zg (by omega) (by omega), zcln (by omega), show ia 73 = W 1 from zC_W hC (g := 1) (by omega)]
  rfl
theorem S_bidM (hN : N ≤ 6) (hH : zHas N 0 W r ia) (hR : zPR p ia N L T) {h q : Nat} (hh : h < N) (hq : q < N) : zWM (d + 6) 209 [.ref 127, .int (nI h), .int (nI q)] (ia, la, zRA pl dr cp cw rp) K = K (some (.int (zBid W p h q))) (ia, la, zRA pl dr cp cw rp) := by
  have e := (hH.2.2.2.2.2.2.1 q (by omega)).2.2.2
  rw [Nat.mul_zero, Nat.zero_add] at e
  rw [e209, b209_0, zg (by omega) (by omega), zcln (by omega), S_aN hN hH hR hh hq, kS, b209_16, e]
  rfl
theorem S_hb (hpl : zIsP pl) (hC : zCore pl p N L T D W r ia la) {h u : Nat} (hh : h < 6) (hu : u < 6) : zWM (d + 7) 101 [.ref 0, .int (nI h), .int (nI u)] (ia, la, zRA pl dr cp cw rp) K = K (some (.int (zen (-1) (zit (zHb (fun i => decide (i ≠ h ∧ i ≠ u)) (zBid W p h)) N none)))) (ia, la, zRA pl dr cp cw rp) := by
  have hN : N ≤ 6 := hC.2.1.2.1
  rw [e101, b101_0]
  refine Eq.trans (zlpE (fun i => zWP (d + 7) 101 5 [some (.ref 0), some (.int (nI h)), some (.int (nI u)), some (.int (zen (-1) (zit (zHb (fun i => decide (i ≠ h ∧ i ≠ u)) (zBid W p h)) i none))), some (.int (nI i))] [] (ia, la, zRA pl dr cp cw rp) K) N ?_) ?_
  · intro i hi
    have hb := zHb_lt (P := fun i => decide (i ≠ h ∧ i ≠ u)) (b := zBid W p h) i
    show zWP (d + 7) 101 5 [some (.ref 0), some (.int (nI h)), some (.int (nI u)), some (.int (zen (-1) (zit (zHb (fun i => decide (i ≠ h ∧ i ≠ u)) (zBid W p h)) i none))), some (.int (nI i))] [] (ia, la, zRA pl dr cp cw rp) K = zWP (d + 7) 101 5 [some (.ref 0), some (.int (nI h)), some (.int (nI u)), some (.int (zen (-1) (zHb (fun i => decide (i ≠ h ∧ i ≠ u)) (zBid W p h) i (zit (zHb (fun i => decide (i ≠ h ∧ i ≠ u)) (zBid W p h)) i none)))), some (.int (nI (i + 1)))] [] (ia, la, zRA pl dr cp cw rp) K
    generalize zit (zHb (fun i => decide (i ≠ h ∧ i ≠ u)) (zBid W p h)) i none = o at hb ⊢
    rw [b101_5 hpl, zC_N hC, if_neg (nI_nle1 hi (by omega)), ns]
    unfold zHb
    by_cases c1 : i = h
    · rw [if_pos (by rw [c1]), if_neg (znd (fun q => q.1 c1))]
    · rw [if_neg (fun q => c1 ((nI_eq (by omega) (by omega)).mp q))]
      by_cases c2 : i = u
      · rw [if_neg (fun q => q (by rw [c2])), if_neg (znd (fun q => q.2 c2))]
      · rw [if_pos (fun q => c2 ((nI_eq (by omega) (by omega)).mp q)), if_pos (decide_eq_true ⟨c1, c2⟩)]
        cases o with
        | none => rw [if_pos (show zen (-1) none = -1 from rfl)]; rfl
        | some j =>
          have hj := (hb j rfl).1
          rw [if_neg (show ¬ zen (-1) (some j) = -1 from fun q => nI_pos (n := j) (by omega) (by rw [show nI j = -1 from q]; decide)), S_bid hpl hC hh (by omega), kS, b101_44]
          refine Eq.trans (S_bid hpl hC hh (show j < 6 by omega)) ?_
          rw [kS, b101_50, ns]
          dsimp only
          by_cases c : zBid W p h i ≤ zBid W p h j
          · rw [if_pos c, if_pos c]
          · rw [if_neg c, if_neg c]; rfl
  · rw [b101_5 hpl, zC_N hC, if_pos (nI_le1 (by omega) (by omega))]
end ZP
theorem T_auction {d pl dr : Nat} {cp cw rp : Option Nat} {ia : Nat → Nat → Int32} {la : Nat → Nat → Int64} {Kc : Option Value → zHP → Prop} {Km : Option Value → Option Value → zHP → Prop} {x1 x2 : Int32} (hI : zInv pl dr ia la) (hc : ∀ v hp, zWM (d + 400) 210 [.ref 127, .int x1, .int x2] hp (Km v) → Kc v hp) (hm : zEndK ia Km) : zWM (d + 400) 100 [.ref 0, .int x1, .int x2] (ia, la, zRA pl dr cp cw rp) Kc := by
  have fin := zfin hI hm
  obtain ⟨i1, i2, i3, i4, i5, i6, i7, p, N, L, T, D, W, r, hC, hM, hDe, hNo⟩ := hI
  have hN6 : N ≤ 6 := hC.2.1.2.1
  have hT12 : T ≤ 12 := hC.2.1.2.2.2.2.2.1
  have hR' : zPR p (zu ia 127 0 0) N L T := zPR_i (fun c h1 h2 => zu_o (by omega)) hC.2.2.1
  have hl' : zHas N 0 W r (zu ia 127 0 0) := zHas_fr (la := la) (lb := la) (by decide) (zFr_0 zFr_r) (zC_0 hC)
  rw [e100, b100_0, S_isP i1 hC, kS, b100_5]
  rcases zpers x1 (N := N) (by omega) with h | ⟨h, hh, rfl, hn⟩
  · rw [if_pos h, if_pos rfl]
    refine hc _ _ ?_
    rw [e210, b210_0, S_isM hR', kS, b210_10, if_pos h, if_pos rfl]
    exact fin _ _ _ _ _ _ _ (zFr_0 zFr_r) rfl
  rw [if_neg hn, if_neg (by decide)]
  have m0 : ∀ K : Option Value → zHP → Prop, zWM (d + 400) 210 [.ref 127, .int (nI h), .int x2] (ia, la, zRA pl dr cp cw rp) K = (if x2 < 0 then K (some (.int (-1))) (zu ia 127 0 0, la, zRA pl dr cp cw rp) else if x2 ≤ 1 then zWP (d + 400) 210 30 [some (.ref 127), some (.int (nI h)), some (.int x2), some (.int (-2)), some (.int 0), none] [] (zu ia 127 0 0, la, zRA pl dr cp cw rp) K else K (some (.int (-1))) (zu ia 127 0 0, la, zRA pl dr cp cw rp)) := by
    intro K
    rw [e210, b210_0, S_isM hR', kS, b210_10, if_neg hn, if_neg (by decide)]
  by_cases a0 : x2 < 0
  · rw [if_pos a0]
    refine hc _ _ ?_
    rw [m0, if_pos a0]
    exact fin _ _ _ _ _ _ _ (zFr_0 zFr_r) rfl
  rw [if_neg a0]
  by_cases a1 : x2 ≤ 1
  · rw [if_pos a1]
    have m0 := fun K => Eq.trans (m0 K) (Eq.trans (if_neg a0) (if_pos a1))
    have l1 : ∀ K : Option Value → zHP → Prop, zWP (d + 400) 210 30 [some (.ref 127), some (.int (nI h)), some (.int x2), some (.int (-2)), some (.int 0), none] [] (zu ia 127 0 0, la, zRA pl dr cp cw rp) K = zWP (d + 400) 210 30 [some (.ref 127), some (.int (nI h)), some (.int x2), some (.int (zen (-2) (zit (zHb (fun i => decide (i ≠ h ∧ i ≠ h)) (zBid W p h)) N none))), some (.int (nI N)), none] [] (zu ia 127 0 0, la, zRA pl dr cp cw rp) K := by
      intro K
      refine zlpE (fun i => zWP (d + 400) 210 30 [some (.ref 127), some (.int (nI h)), some (.int x2), some (.int (zen (-2) (zit (zHb (fun i => decide (i ≠ h ∧ i ≠ h)) (zBid W p h)) i none))), some (.int (nI i)), none] [] (zu ia 127 0 0, la, zRA pl dr cp cw rp) K) N ?_
      intro i hi
      have hb := zHb_lt (P := fun i => decide (i ≠ h ∧ i ≠ h)) (b := zBid W p h) i
      show zWP (d + 400) 210 30 [some (.ref 127), some (.int (nI h)), some (.int x2), some (.int (zen (-2) (zit (zHb (fun i => decide (i ≠ h ∧ i ≠ h)) (zBid W p h)) i none))), some (.int (nI i)), none] [] (zu ia 127 0 0, la, zRA pl dr cp cw rp) K = zWP (d + 400) 210 30 [some (.ref 127), some (.int (nI h)), some (.int x2), some (.int (zen (-2) (zHb (fun i => decide (i ≠ h ∧ i ≠ h)) (zBid W p h) i (zit (zHb (fun i => decide (i ≠ h ∧ i ≠ h)) (zBid W p h)) i none)))), some (.int (nI (i + 1))), none] [] (zu ia 127 0 0, la, zRA pl dr cp cw rp) K
      generalize zit (zHb (fun i => decide (i ≠ h ∧ i ≠ h)) (zBid W p h)) i none = o at hb ⊢
      rw [b210_30, hR'.1, if_neg (nI_nle1 hi (by omega)), ns]
      unfold zHb
      by_cases c1 : i = h
      · rw [if_pos (by rw [c1]), if_neg (znd (fun q => q.1 c1))]
      · rw [if_neg (fun q => c1 ((nI_eq (by omega) (by omega)).mp q)), if_pos (decide_eq_true ⟨c1, c1⟩)]
        cases o with
        | none => rw [if_pos (show zen (-2) none < 0 by decide)]; rfl
        | some j =>
          have hj := (hb j rfl).1
          rw [if_neg (show ¬ zen (-2) (some j) < 0 from nI_pos (n := j) (by omega)), S_bidM hN6 hl' hR' hh (by omega), kS, b210_58]
          refine Eq.trans (S_bidM hN6 hl' hR' hh (show j < N by omega)) ?_
          rw [kS, b210_64, ns]
          dsimp only
          by_cases c : zBid W p h i ≤ zBid W p h j
          · rw [if_pos c, if_pos c]
          · rw [if_neg c, if_neg c]; rfl
    have hb := zHb_lt (P := fun i => decide (i ≠ h ∧ i ≠ h)) (b := zBid W p h) N
    rw [S_hb i1 hC (by omega) (by omega), kS, b100_25]
    generalize zit (zHb (fun i => decide (i ≠ h ∧ i ≠ h)) (zBid W p h)) N none = o at l1 hb ⊢
    cases o with
    | none =>
      rw [if_neg (fun q => q rfl)]
      refine hc _ _ ?_
      rw [m0, l1, b210_30, hR'.1, if_pos (nI_le1 (by omega) (by omega)), if_pos (show zen (-2) none < 0 by decide)]
      exact fin _ _ _ _ _ _ _ (zFr_0 zFr_r) rfl
    | some j =>
      have hj := (hb j rfl).1
      rw [if_pos (show ¬ zen (-1) (some j) = -1 from fun q => nI_pos (n := j) (by omega) (by rw [show nI j = -1 from q]; decide))]
      by_cases a2 : x2 = 0
      · rw [if_neg (fun q => q a2)]
        refine hc _ _ ?_
        rw [m0, l1, b210_30, hR'.1, if_pos (nI_le1 (by omega) (by omega)), if_neg (show ¬ zen (-2) (some j) < 0 from nI_pos (n := j) (by omega)), if_neg (fun q => q a2)]
        exact fin _ _ _ _ _ _ _ (zFr_0 zFr_r) rfl
      · rw [if_pos a2]
        refine Eq.mpr (S_hb i1 hC (h := h) (u := j) (by omega) (by omega)) ?_
        have hb2 := zHb_lt (P := fun i => decide (i ≠ h ∧ i ≠ j)) (b := zBid W p h) N
        rw [kS, b100_46]
        have l2 : ∀ K : Option Value → zHP → Prop, zWP (d + 400) 210 92 [some (.ref 127), some (.int (nI h)), some (.int x2), some (.int (nI j)), some (.int 0), some (.int 0)] [] (zu ia 127 0 0, la, zRA pl dr cp cw rp) K = zWP (d + 400) 210 92 [some (.ref 127), some (.int (nI h)), some (.int x2), some (.int (nI j)), some (.int (zpay (zBid W p h) (zit (zHb (fun i => decide (i ≠ h ∧ i ≠ j)) (zBid W p h)) N none))), some (.int (nI N))] [] (zu ia 127 0 0, la, zRA pl dr cp cw rp) K := by
          intro K
          refine zlpE (fun i => zWP (d + 400) 210 92 [some (.ref 127), some (.int (nI h)), some (.int x2), some (.int (nI j)), some (.int (zpay (zBid W p h) (zit (zHb (fun i => decide (i ≠ h ∧ i ≠ j)) (zBid W p h)) i none))), some (.int (nI i))] [] (zu ia 127 0 0, la, zRA pl dr cp cw rp) K) N ?_
          intro i hi
          show zWP (d + 400) 210 92 [some (.ref 127), some (.int (nI h)), some (.int x2), some (.int (nI j)), some (.int (zpay (zBid W p h) (zit (zHb (fun i => decide (i ≠ h ∧ i ≠ j)) (zBid W p h)) i none))), some (.int (nI i))] [] (zu ia 127 0 0, la, zRA pl dr cp cw rp) K = zWP (d + 400) 210 92 [some (.ref 127), some (.int (nI h)), some (.int x2), some (.int (nI j)), some (.int (zpay (zBid W p h) (zHb (fun i => decide (i ≠ h ∧ i ≠ j)) (zBid W p h) i (zit (zHb (fun i => decide (i ≠ h ∧ i ≠ j)) (zBid W p h)) i none)))), some (.int (nI (i + 1)))] [] (zu ia 127 0 0, la, zRA pl dr cp cw rp) K
          generalize zit (zHb (fun i => decide (i ≠ h ∧ i ≠ j)) (zBid W p h)) i none = o
          rw [b210_92, hR'.1, if_neg (nI_nle1 hi (by omega)), ns]
          unfold zHb
          by_cases c1 : i = h
          · rw [if_pos (by rw [c1]), if_neg (znd (fun q => q.1 c1))]
          · rw [if_neg (fun q => c1 ((nI_eq (by omega) (by omega)).mp q))]
            by_cases c2 : i = j
            · rw [if_pos (by rw [c2]), if_neg (znd (fun q => q.2 c2))]
            · rw [if_neg (fun q => c2 ((nI_eq (by omega) (by omega)).mp q)), if_pos (decide_eq_true ⟨c1, c2⟩), S_bidM hN6 hl' hR' hh (by omega), kS, b210_124, ns]
              cases o with
              | none =>
                show zWP (d + 400) 210 92 [some (.ref 127), some (.int (nI h)), some (.int x2), some (.int (nI j)), some (.int (if 0 < zBid W p h i then zBid W p h i else 0)), some (.int (nI (i + 1)))] [] (zu ia 127 0 0, la, zRA pl dr cp cw rp) K = zWP (d + 400) 210 92 [some (.ref 127), some (.int (nI h)), some (.int x2), some (.int (nI j)), some (.int (zBid W p h i)), some (.int (nI (i + 1)))] [] (zu ia 127 0 0, la, zRA pl dr cp cw rp) K
                by_cases c : 0 < zBid W p h i
                · rw [if_pos c]
                · rw [if_neg c]
                  have e0 : zBid W p h i = 0 := Int32.le_antisymm (Int32.not_lt.mp c) (Int32.not_lt.mp zBid_0)
                  rw [e0]
              | some k =>
                show zWP (d + 400) 210 92 [some (.ref 127), some (.int (nI h)), some (.int x2), some (.int (nI j)), some (.int (if zBid W p h k < zBid W p h i then zBid W p h i else zBid W p h k)), some (.int (nI (i + 1)))] [] (zu ia 127 0 0, la, zRA pl dr cp cw rp) K = zWP (d + 400) 210 92 [some (.ref 127), some (.int (nI h)), some (.int x2), some (.int (nI j)), some (.int (zpay (zBid W p h) (if zBid W p h i ≤ zBid W p h k then some k else some i))), some (.int (nI (i + 1)))] [] (zu ia 127 0 0, la, zRA pl dr cp cw rp) K
                by_cases c : zBid W p h i ≤ zBid W p h k
                · rw [if_neg (Int32.not_lt.mpr c), if_pos c]; rfl
                · rw [if_pos (Int32.not_le.mp c), if_neg c]; rfl
        generalize zit (zHb (fun i => decide (i ≠ h ∧ i ≠ j)) (zBid W p h)) N none = o at l2 hb2 ⊢
        have ml : ∀ K : Option Value → zHP → Prop, zWM (d + 400) 210 [.ref 127, .int (nI h), .int x2] (ia, la, zRA pl dr cp cw rp) K = K (some (.int (zpay (zBid W p h) (o)))) (zu ia 127 0 0, la, zRA pl dr cp cw rp) := by
          intro K
          rw [m0, l1, b210_30, hR'.1, if_pos (nI_le1 (by omega) (by omega)), if_neg (show ¬ zen (-2) (some j) < 0 from nI_pos (n := j) (by omega)), if_pos a2]
          refine Eq.trans (l2 K) ?_
          rw [b210_92, hR'.1, if_pos (nI_le1 (by omega) (by omega))]
        cases o with
        | none =>
          rw [if_neg (fun q => q rfl)]
          refine hc _ _ ?_
          rw [ml]
          exact fin _ _ _ _ _ _ _ (zFr_0 zFr_r) rfl
        | some k =>
          have hk := (hb2 k rfl).1
          rw [if_pos (show ¬ zen (-1) (some k) = -1 from fun q => nI_pos (n := k) (by omega) (by rw [show nI k = -1 from q]; decide))]
          refine Eq.mpr (S_bid i1 hC (q := k) (by omega) (by omega)) ?_
          rw [kS, b100_65]
          refine hc _ _ ?_
          rw [ml]
          exact fin _ _ _ _ _ _ _ (zFr_0 zFr_r) rfl
  · rw [if_neg a1]
    refine hc _ _ ?_
    rw [m0, if_neg a0, if_neg a1]
    exact fin _ _ _ _ _ _ _ (zFr_0 zFr_r) rfl
/-- round the tenants: how it ends, the steps, who was met -/
def zRg (W : Nat → Nat → Int32) (m : Nat) : Nat → Nat → Nat → Nat → Int32 × Nat × Nat
  | 0, _, k, B => (0, k, B)
  | n + 1, a, k, B => if W 3 a < 0 then (0, k, B) else if B.testBit (zct (W 3 a)) = true then ((if zct (W 3 a) = m then 1 else 2), k + 1, B ||| 2 ^ zct (W 3 a)) else zRg W m n (zct (W 3 a)) (k + 1) (B ||| 2 ^ zct (W 3 a))
theorem zor_lt {B t : Nat} (hB : B < 64) (ht : t < 6) : B ||| 2 ^ t < 64 := by
  have : (2 ^ t : Nat) < 2 ^ 6 := Nat.pow_lt_pow_right (by decide) ht
  exact Nat.or_lt_two_pow (n := 6) hB this
theorem zor_cnt {B t : Nat} (ht : t < 6) (h : B.testBit t = false) : zcnt (fun i => (B ||| 2 ^ t).testBit i) 6 = zcnt (fun i => B.testBit i) 6 + 1 := by
  refine zcnt_up (k := t) (fun i hi => ?_) h ?_ 6 ht
  · rw [Nat.testBit_or, Nat.testBit_two_pow]
    simp [Ne.symm hi]
  · rw [Nat.testBit_or, Nat.testBit_two_pow]
    simp
theorem T_ring {d pl dr : Nat} {cp cw rp : Option Nat} {ia : Nat → Nat → Int32} {la : Nat → Nat → Int64} {Kc : Option Value → zHP → Prop} {Km : Option Value → Option Value → zHP → Prop} {x1 x2 : Int32} (hI : zInv pl dr ia la) (hc : ∀ v hp, zWM (d + 400) 213 [.ref 127, .int x1, .int x2] hp (Km v) → Kc v hp) (hm : zEndK ia Km) : zWM (d + 400) 106 [.ref 0, .int x1, .int x2] (ia, la, zRA pl dr cp cw rp) Kc := by
  have fin := zfin hI hm
  obtain ⟨i1, i2, i3, i4, i5, i6, i7, p, N, L, T, D, W, r, hC, hM, hDe, hNo⟩ := hI
  have hN6 : N ≤ 6 := hC.2.1.2.1
  have hT12 : T ≤ 12 := hC.2.1.2.2.2.2.2.1
  have hR' : zPR p (zu ia 127 0 0) N L T := zPR_i (fun c h1 h2 => zu_o (by omega)) hC.2.2.1
  have hl' : zHas N 0 W r (zu ia 127 0 0) := zHas_fr (la := la) (lb := la) (by decide) (zFr_0 zFr_r) (zC_0 hC)
  have hTd := (zC_f hC).1.2.1
  rw [e106, b106_0, S_isP i1 hC, kS, b106_5]
  rcases zpers x1 (N := N) (by omega) with h | ⟨h, hh, rfl, hn⟩
  · rw [if_pos h, if_pos rfl]
    refine hc _ _ ?_
    rw [e213, b213_0, S_isM hR', kS, b213_10, if_pos h, if_pos rfl]
    exact fin _ _ _ _ _ _ _ (zFr_0 zFr_r) rfl
  rw [if_neg hn, if_neg (by decide), zsh1 (by omega)]
  have m0 : ∀ K : Option Value → zHP → Prop, zWM (d + 400) 213 [.ref 127, .int (nI h), .int x2] (ia, la, zRA pl dr cp cw rp) K = (if x2 < 0 then K (some (.int (-1))) (zu ia 127 0 0, la, zRA pl dr cp cw rp) else if x2 ≤ 2 then zWP (d + 400) 213 37 [some (.ref 127), some (.int (nI h)), some (.int x2), some (.int (nI h)), some (.int (nI (2 ^ h))), some (.int 0), some (.int 0)] [] (zu ia 127 0 0, la, zRA pl dr cp cw rp) K else K (some (.int (-1))) (zu ia 127 0 0, la, zRA pl dr cp cw rp)) := by
    intro K
    rw [e213, b213_0, S_isM hR', kS, b213_10, if_neg hn, if_neg (by decide), zsh1 (by omega)]
  by_cases a0 : x2 < 0
  · rw [if_pos a0]
    refine hc _ _ ?_
    rw [m0, if_pos a0]
    exact fin _ _ _ _ _ _ _ (zFr_0 zFr_r) rfl
  rw [if_neg a0]
  by_cases a1 : x2 ≤ 2
  · rw [if_pos a1]
    have m0 := fun K => Eq.trans (m0 K) (Eq.trans (if_neg a0) (if_pos a1))
    have eq1 : ∀ t : Nat, t < N → (nI t = nI h) = (t = h) := fun t ht => propext (nI_eq (by omega) (by omega))
    have lc : ∀ n a k B, k + n = 6 → a < N → B < 64 → zcnt (fun i => B.testBit i) 6 = k + 1 → zWP (d + 400) 106 32 [some (.ref 0), some (.int (nI h)), some (.int x2), some (.int (nI a)), some (.int (nI k)), some (.int (nI B)), some (.int 0)] [] (ia, la, zRA pl dr cp cw rp) Kc = Kc (some (.int (if ¬ x2 = 0 then (if ¬ x2 = 1 then nI (zRg W h n a k B).2.2 else nI (zRg W h n a k B).2.1) else (zRg W h n a k B).1))) (ia, la, zRA pl dr cp cw rp) := by
      intro n
      induction n with
      | zero =>
        intro a k B hk ha hB hcn
        have := zcnt_le (fun i => B.testBit i) 6
        omega
      | succ n ih =>
        intro a k B hk ha hB hcn
        rw [b106_32, if_neg (z6le (by omega)), if_neg (fun q => q rfl), S_isLet (Or.inl rfl) (by omega), kS, b106_52, zg (by omega) (by omega), zcln (by omega), show ia (72 + 3) = W 3 from zC_W hC (g := 3) (by omega), ns]
        unfold zRg
        rcases hTd a ha with ⟨e3, _⟩ | ⟨t, y, ht, _, _, e3, _⟩
        · have c : W 3 a < 0 := by rw [e3]; decide
          rw [if_pos c, if_pos rfl, if_pos c, b106_100]
          by_cases z0 : x2 = 0
          · rw [if_neg (fun q => q z0), if_neg (fun q => q z0)]
          · rw [if_pos z0, if_pos z0]
            by_cases z1 : x2 = 1
            · rw [if_neg (fun q => q z1), if_neg (fun q => q z1)]
            · rw [if_pos z1, if_pos z1]
        · have c : ¬ W 3 a < 0 := by rw [e3]; exact nI_pos (by omega)
          rw [if_neg c, if_neg (show ¬ (1 : Int32) = 0 by decide), if_neg c, e3, zct_n (by omega), zbit_at (by omega) (by omega), zsh1 (by omega), nI_or]
          by_cases hb : B.testBit t = true
          · rw [if_pos hb, if_neg (by decide), if_pos hb]
            have out : ∀ v : Int32, ¬ v = 0 → zWP (d + 400) 106 32 [some (.ref 0), some (.int (nI h)), some (.int x2), some (.int (nI t)), some (.int (nI (k + 1))), some (.int (nI (B ||| 2 ^ t))), some (.int v)] [] (ia, la, zRA pl dr cp cw rp) Kc = Kc (some (.int (if ¬ x2 = 0 then (if ¬ x2 = 1 then nI (B ||| 2 ^ t) else nI (k + 1)) else v))) (ia, la, zRA pl dr cp cw rp) := by
              intro v hv
              rw [b106_32]
              have e100 : zWP (d + 400) 106 100 [some (.ref 0), some (.int (nI h)), some (.int x2), some (.int (nI t)), some (.int (nI (k + 1))), some (.int (nI (B ||| 2 ^ t))), some (.int v)] [] (ia, la, zRA pl dr cp cw rp) Kc = Kc (some (.int (if ¬ x2 = 0 then (if ¬ x2 = 1 then nI (B ||| 2 ^ t) else nI (k + 1)) else v))) (ia, la, zRA pl dr cp cw rp) := by
                rw [b106_100]
                by_cases z0 : x2 = 0
                · rw [if_neg (fun q => q z0), if_neg (fun q => q z0)]
                · rw [if_pos z0, if_pos z0]
                  by_cases z1 : x2 = 1
                  · rw [if_neg (fun q => q z1), if_neg (fun q => q z1)]
                  · rw [if_pos z1, if_pos z1]
              rw [if_pos hv, e100]
              split <;> rfl
            by_cases hm : t = h
            · rw [if_neg (fun q => q (by rw [hm])), if_pos hm]
              exact out 1 (by decide)
            · rw [if_pos (fun q => hm ((nI_eq (by omega) (by omega)).mp q)), if_neg hm]
              exact out 2 (by decide)
          · rw [if_neg hb, if_pos rfl, if_neg hb]
            exact ih t (k + 1) _ (by omega) ht (zor_lt hB (by omega)) (by rw [zor_cnt (by omega) (by simpa using hb), hcn])
    have lm : ∀ n a k B (K : Option Value → zHP → Prop), k + n = 6 → a < N → B < 64 → zcnt (fun i => B.testBit i) 6 = k + 1 → zWP (d + 400) 213 37 [some (.ref 127), some (.int (nI h)), some (.int x2), some (.int (nI a)), some (.int (nI B)), some (.int (nI k)), some (.int 0)] [] (zu ia 127 0 0, la, zRA pl dr cp cw rp) K = K (some (.int (if ¬ x2 = 0 then (if ¬ x2 = 1 then nI (zRg W h n a k B).2.2 else nI (zRg W h n a k B).2.1) else (zRg W h n a k B).1))) (zu ia 127 0 0, la, zRA pl dr cp cw rp) := by
      intro n
      induction n with
      | zero =>
        intro a k B K hk ha hB hcn
        have := zcnt_le (fun i => B.testBit i) 6
        omega
      | succ n ih =>
        intro a k B K hk ha hB hcn
        rw [b213_37, if_neg (fun q => q rfl)]
        refine Eq.trans (S_ltM (s := 0) (by omega) hl' (by omega)) ?_
        have e153 := (hl'.2.2.2.2.2.2.1 a (by omega)).1
        rw [Nat.mul_zero, Nat.zero_add] at e153
        rw [kS, b213_48, zg (by omega) (by omega), zcln (by omega), e153, ns]
        unfold zRg
        rcases hTd a ha with ⟨e3, _⟩ | ⟨t, y, ht, _, _, e3, _⟩
        · have c : W 3 a < 0 := by rw [e3]; decide
          rw [if_pos c, if_pos rfl, if_pos c, b213_94]
          by_cases z0 : x2 = 0
          · rw [if_neg (fun q => q z0), if_neg (fun q => q z0)]
          · rw [if_pos z0, if_pos z0]
            by_cases z1 : x2 = 1
            · rw [if_neg (fun q => q z1), if_neg (fun q => q z1)]
            · rw [if_pos z1, if_pos z1]
        · have c : ¬ W 3 a < 0 := by rw [e3]; exact nI_pos (by omega)
          rw [if_neg c, if_neg (show ¬ (1 : Int32) = 0 by decide), if_neg c, e3, zct_n (by omega), zet_n (by omega), zbit_at (by omega) (by omega), zsh1 (by omega), nI_or]
          by_cases hb : B.testBit t = true
          · rw [if_pos hb, if_neg (fun q => q rfl), if_pos hb]
            have out : ∀ v : Int32, ¬ v = 0 → zWP (d + 400) 213 37 [some (.ref 127), some (.int (nI h)), some (.int x2), some (.int (nI t)), some (.int (nI (B ||| 2 ^ t))), some (.int (nI (k + 1))), some (.int v)] [] (zu ia 127 0 0, la, zRA pl dr cp cw rp) K = K (some (.int (if ¬ x2 = 0 then (if ¬ x2 = 1 then nI (B ||| 2 ^ t) else nI (k + 1)) else v))) (zu ia 127 0 0, la, zRA pl dr cp cw rp) := by
              intro v hv
              rw [b213_37, if_pos hv, b213_94]
              by_cases z0 : x2 = 0
              · rw [if_neg (fun q => q z0), if_neg (fun q => q z0)]
              · rw [if_pos z0, if_pos z0]
                by_cases z1 : x2 = 1
                · rw [if_neg (fun q => q z1), if_neg (fun q => q z1)]
                · rw [if_pos z1, if_pos z1]
            by_cases hm : t = h
            · rw [if_neg (fun q => q (by rw [hm])), if_pos hm]
              exact out 1 (by decide)
            · rw [if_pos (fun q => hm ((nI_eq (by omega) (by omega)).mp q)), if_neg hm]
              exact out 2 (by decide)
          · rw [if_neg hb, if_pos (by decide), if_neg hb]
            exact ih t (k + 1) _ K (by omega) ht (zor_lt hB (by omega)) (by rw [zor_cnt (by omega) (by simpa using hb), hcn])
    have hB0 : 2 ^ h < 64 := by have := zor_lt (B := 0) (t := h) (by omega) (by omega); rwa [Nat.zero_or] at this
    have hc0 : zcnt (fun i => (2 ^ h : Nat).testBit i) 6 = 0 + 1 := by
      have := zor_cnt (B := 0) (t := h) (by omega) (by simp)
      rw [Nat.zero_or] at this
      rw [this, zcnt_0 _ 6 (fun i _ => by simp)]
    refine Eq.mpr (lc 6 h 0 (2 ^ h) (by omega) hh hB0 hc0) ?_
    refine hc _ _ ?_
    rw [m0]
    refine Eq.mpr (lm 6 h 0 (2 ^ h) _ (by omega) hh hB0 hc0) ?_
    exact fin _ _ _ _ _ _ _ (zFr_0 zFr_r) rfl
  · rw [if_neg a1]
    refine hc _ _ ?_
    rw [m0, if_neg a0, if_neg a1]
    exact fin _ _ _ _ _ _ _ (zFr_0 zFr_r) rfl
/-- what one gains -/
def zGn (W p : Nat → Nat → Int32) (h q : Nat) (x y : Int32) : Int32 := if ¬ x = 0 then (if ¬ y = 0 then zds (W 2) (p 2) (3 * h) (3 * q) / 20000 else W 1 q / 10) else (if ¬ y = 0 then 1 else 2)
def zRs (W p : Nat → Nat → Int32) (h q : Nat) (a b : Int32) : Int32 := if zGn W p h q a b < zGn W p h q (1 - a) b then 0 else if zGn W p q h b a < zGn W p q h (1 - b) a then 0 else 1
section ZP
variable {d pl dr N L T D s : Nat} {cp cw rp : Option Nat} {p ia W V : Nat → Nat → Int32} {o : Nat → Int32} {r bn x y : Int32} {la : Nat → Nat → Int64} {K : Option Value → zHP → Prop}
theorem S_gain (hpl : zIsP pl) (hC : zCore pl p N L T D W r ia la) {h q : Nat} (hh : h < 6) (hq : q < 6) : zWM (d + 6) 109 [.ref 0, .int (nI h), .int (nI q), .int x, .int y] (ia, la, zRA pl dr cp cw rp) K = K (some (.int (zGn W p h q x y))) (ia, la, zRA pl dr cp cw rp) := by
  rw [e109, b109_0, S_dN hpl hC hh hq, kS, b109_46, zg (by omega) (by omega), zcln (by omega), show ia 73 = W 1 from zC_W hC (g := 1) (by omega)]
  unfold zGn
  by_cases h1 : x = 0 <;> by_cases h2 : y = 0 <;> simp only [h1, h2, not_true, not_false_eq_true, if_true, if_false]
theorem S_gainM (hN : N ≤ 6) (hH : zHas N 0 W r ia) (hR : zPR p ia N L T) {h q : Nat} (hh : h < N) (hq : q < N) : zWM (d + 6) 216 [.ref 127, .int (nI h), .int (nI q), .int x, .int y] (ia, la, zRA pl dr cp cw rp) K = K (some (.int (zGn W p h q x y))) (ia, la, zRA pl dr cp cw rp) := by
  have e := (hH.2.2.2.2.2.2.1 q (by omega)).2.2.2
  rw [Nat.mul_zero, Nat.zero_add] at e
  rw [e216, b216_0, S_aN hN hH hR hh hq, kS, b216_39, zg (by omega) (by omega), zcln (by omega), e]
  unfold zGn
  by_cases h1 : x = 0 <;> by_cases h2 : y = 0 <;> simp only [h1, h2, not_true, not_false_eq_true, if_true, if_false]
theorem S_rs (hpl : zIsP pl) (hC : zCore pl p N L T D W r ia la) {h q : Nat} (hh : h < 6) (hq : q < 6) : zWM (d + 7) 110 [.ref 0, .int (nI h), .int (nI q), .int x, .int y] (ia, la, zRA pl dr cp cw rp) K = K (some (.int (zRs W p h q x y))) (ia, la, zRA pl dr cp cw rp) := by
  rw [e110, b110_0, S_gain hpl hC hh hq, kS, b110_11, S_gain hpl hC hh hq, kS, b110_20, S_gain hpl hC hq hh, kS, b110_34, S_gain hpl hC hq hh, kS, b110_43]
  unfold zRs
  by_cases h1 : zGn W p h q x y < zGn W p h q (1 - x) y
  · rw [if_pos h1, if_pos h1]
  · rw [if_neg h1, if_neg h1]
    by_cases h2 : zGn W p q h y x < zGn W p q h (1 - y) x
    · rw [if_pos h2, if_pos h2]
    · rw [if_neg h2, if_neg h2]
theorem S_rsM (hN : N ≤ 6) (hH : zHas N 0 W r ia) (hR : zPR p ia N L T) {h q : Nat} (hh : h < N) (hq : q < N) : zWM (d + 7) 217 [.ref 127, .int (nI h), .int (nI q), .int x] (ia, la, zRA pl dr cp cw rp) K = K (some (.int (zRs W p h q (x / 2) (x - x / 2 * 2)))) (ia, la, zRA pl dr cp cw rp) := by
  rw [e217, b217_0, S_gainM hN hH hR hh hq, kS, b217_22, S_gainM hN hH hR hh hq, kS, b217_32, S_gainM hN hH hR hq hh, kS, b217_47, S_gainM hN hH hR hq hh, kS, b217_57]
  unfold zRs
  by_cases h1 : zGn W p h q (x / 2) (x - x / 2 * 2) < zGn W p h q (1 - x / 2) (x - x / 2 * 2)
  · rw [if_pos h1, if_pos h1]
  · rw [if_neg h1, if_neg h1]
    by_cases h2 : zGn W p q h (x - x / 2 * 2) (x / 2) < zGn W p q h (1 - (x - x / 2 * 2)) (x / 2)
    · rw [if_pos h2, if_pos h2]
    · rw [if_neg h2, if_neg h2]
theorem S_two (hpl : zIsP pl) (hC : zCore pl p N L T D W r ia la) : zWM (d + 1) 108 [.ref 0, .int x, .int y] (ia, la, zRA pl dr cp cw rp) K = K (some (.int (if x < 0 ∨ nI N ≤ x then 0 else if y < 0 ∨ nI N ≤ y then 0 else if x = y then 0 else 1))) (ia, la, zRA pl dr cp cw rp) := by
  rw [e108, b108_0, S_isP hpl hC, kS, b108_5, S_isP hpl hC, kS, b108_13]
  by_cases h1 : x < 0 ∨ nI N ≤ x
  · simp only [h1, if_true]
  · by_cases h2 : y < 0 ∨ nI N ≤ y
    · simp only [h1, h2, if_true, if_false]; rfl
    · by_cases h3 : x = y
      · simp only [h1, h2, h3, if_true, if_false]
        split <;> rfl
      · simp only [h1, h2, h3, if_false]
        rw [if_neg (by decide), if_neg (by decide)]
theorem S_twoM (hR : zPR p ia N L T) : zWM (d + 1) 219 [.ref 127, .int x, .int y] (ia, la, zRA pl dr cp cw rp) K = K (some (.int (if x < 0 ∨ nI N ≤ x then 0 else if y < 0 ∨ nI N ≤ y then 0 else if x = y then 0 else 1))) (ia, la, zRA pl dr cp cw rp) := by
  rw [e219, b219_0, S_isM hR, kS, b219_5, S_isM hR, kS, b219_13]
  by_cases h1 : x < 0 ∨ nI N ≤ x
  · simp only [h1, if_true]
  · by_cases h2 : y < 0 ∨ nI N ≤ y
    · simp only [h1, h2, if_true, if_false]; rfl
    · by_cases h3 : x = y
      · simp only [h1, h2, h3, if_true, if_false]
        split <;> rfl
      · simp only [h1, h2, h3, if_false]
        rw [if_neg (by decide), if_neg (by decide)]
end ZP
/-- the k-th rest, from the i-th pair on, when c were passed -/
def zRk (f : Nat → Int32) (k : Int32) : Nat → Nat → Nat → Int32
  | 0, _, c => if k = -1 then nI c else -2
  | n + 1, i, c => if f i = 0 then zRk f k n (i + 1) c else if nI c = k then 10 * (nI i / 2) + (nI i - nI i / 2 * 2) else zRk f k n (i + 1) (c + 1)
section ZP
variable {d pl dr N L T D s : Nat} {cp cw rp : Option Nat} {p ia W V : Nat → Nat → Int32} {o : Nat → Int32} {r bn x y : Int32} {la : Nat → Nat → Int64} {K : Option Value → zHP → Prop}
theorem S_rkM (hN : N ≤ 6) (hH : zHas N 0 W r ia) (hR : zPR p ia N L T) {h q : Nat} (hh : h < N) (hq : q < N) : zWM (d + 8) 218 [.ref 127, .int (nI h), .int (nI q), .int x] (ia, la, zRA pl dr cp cw rp) K = K (some (.int (zRk (fun i => zRs W p h q (nI i / 2) (nI i - nI i / 2 * 2)) x 4 0 0))) (ia, la, zRA pl dr cp cw rp) := by
  rw [e218, b218_0]
  have lp : ∀ n i c, i + n = 4 → zWP (d + 8) 218 6 [some (.ref 127), some (.int (nI h)), some (.int (nI q)), some (.int x), some (.int (nI c)), some (.int (nI i))] [] (ia, la, zRA pl dr cp cw rp) K = K (some (.int (zRk (fun i => zRs W p h q (nI i / 2) (nI i - nI i / 2 * 2)) x n i c))) (ia, la, zRA pl dr cp cw rp) := by
    intro n
    induction n with
    | zero =>
      intro i c hi
      rw [b218_6, if_pos (show (4 : Int32) ≤ nI i from nI_le1 (a := 4) (by omega) (by omega))]
      unfold zRk
      by_cases e : x = -1
      · rw [if_neg (fun z => z e), if_pos e]
      · rw [if_pos e, if_neg e]
    | succ n ih =>
      intro i c hi
      rw [b218_6, if_neg (show ¬ (4 : Int32) ≤ nI i from nI_nle1 (a := 4) (by omega) (by omega)), S_rsM hN hH hR hh hq, kS, b218_20, ns, ns]
      unfold zRk
      by_cases e : zRs W p h q (nI i / 2) (nI i - nI i / 2 * 2) = 0
      · rw [if_neg (fun z => z e), if_pos e]
        exact ih (i + 1) c (by omega)
      · rw [if_pos e, if_neg e]
        by_cases e2 : nI c = x
        · rw [if_neg (fun z => z e2), if_pos e2]
        · rw [if_pos e2, if_neg e2]
          exact ih (i + 1) (c + 1) (by omega)
  exact lp 4 0 0 (by omega)
end ZP
theorem T_rests {d pl dr : Nat} {cp cw rp : Option Nat} {ia : Nat → Nat → Int32} {la : Nat → Nat → Int64} {Kc : Option Value → zHP → Prop} {Km : Option Value → Option Value → zHP → Prop} {x1 x2 : Int32} (hI : zInv pl dr ia la) (hc : ∀ v hp, zWM (d + 400) 220 [.ref 127, .int x1, .int x2] hp (Km v) → Kc v hp) (hm : zEndK ia Km) : zWM (d + 400) 111 [.ref 0, .int x1, .int x2] (ia, la, zRA pl dr cp cw rp) Kc := by
  have fin := zfin hI hm
  obtain ⟨i1, i2, i3, i4, i5, i6, i7, p, N, L, T, D, W, r, hC, hM, hDe, hNo⟩ := hI
  have hN6 : N ≤ 6 := hC.2.1.2.1
  have hT12 : T ≤ 12 := hC.2.1.2.2.2.2.2.1
  have hR' : zPR p (zu ia 127 0 0) N L T := zPR_i (fun c h1 h2 => zu_o (by omega)) hC.2.2.1
  have hl' : zHas N 0 W r (zu ia 127 0 0) := zHas_fr (la := la) (lb := la) (by decide) (zFr_0 zFr_r) (zC_0 hC)
  rw [e111, b111_0, S_two i1 hC, kS, b111_6]
  generalize hv : (if x1 < 0 ∨ nI N ≤ x1 then (0 : Int32) else if x2 < 0 ∨ nI N ≤ x2 then 0 else if x1 = x2 then 0 else 1) = v
  have m0 : ∀ K : Option Value → zHP → Prop, zWM (d + 400) 220 [.ref 127, .int x1, .int x2] (ia, la, zRA pl dr cp cw rp) K = (if v = 0 then K (some (.int (-1))) (zu ia 127 0 0, la, zRA pl dr cp cw rp) else zWM (d + 399) 218 [.ref 127, .int x1, .int x2, .int (-1)] (zu ia 127 0 0, la, zRA pl dr cp cw rp) (zK (d + 400) 220 21 [some (.ref 127), some (.int x1), some (.int x2)] [] K)) := by
    intro K
    rw [e220, b220_0, S_twoM hR', kS, b220_11, hv]
  by_cases e : v = 0
  · rw [if_neg (fun z => z e)]
    refine hc _ _ ?_
    rw [m0, if_pos e]
    exact fin _ _ _ _ _ _ _ (zFr_0 zFr_r) rfl
  · rcases zpers x1 (N := N) (by omega) with h1 | ⟨h, hh, rfl, hn⟩
    · rw [if_pos h1] at hv; exact absurd hv.symm e
    rcases zpers x2 (N := N) (by omega) with h2 | ⟨q, hq, rfl, hn2⟩
    · rw [if_neg hn, if_pos h2] at hv; exact absurd hv.symm e
    rw [if_pos e]
    have lp : ∀ n i c, i + n = 4 → c ≤ i → zWP (d + 400) 111 16 [some (.ref 0), some (.int (nI h)), some (.int (nI q)), some (.int (nI c)), some (.int (nI i))] [] (ia, la, zRA pl dr cp cw rp) Kc = Kc (some (.int (zRk (fun i => zRs W p h q (nI i / 2) (nI i - nI i / 2 * 2)) (-1) n i c))) (ia, la, zRA pl dr cp cw rp) := by
      intro n
      induction n with
      | zero =>
        intro i c hi hci
        rw [b111_16, if_pos (show (4 : Int32) ≤ nI i from nI_le1 (a := 4) (by omega) (by omega))]
        unfold zRk
        rw [if_pos rfl]
      | succ n ih =>
        intro i c hi hci
        rw [b111_16, if_neg (show ¬ (4 : Int32) ≤ nI i from nI_nle1 (a := 4) (by omega) (by omega)), S_rs i1 hC (by omega) (by omega), kS, b111_36, ns, ns]
        unfold zRk
        by_cases e : zRs W p h q (nI i / 2) (nI i - nI i / 2 * 2) = 0
        · rw [if_pos e, if_pos e]
          exact ih (i + 1) c (by omega) (by omega)
        · rw [if_neg e, if_neg e, if_neg (fun z => nI_pos (n := c) (by omega) (by rw [z]; decide))]
          exact ih (i + 1) (c + 1) (by omega) (by omega)
    refine Eq.mpr (lp 4 0 0 (by omega) (by omega)) ?_
    refine hc _ _ ?_
    rw [m0, if_neg e, S_rkM hN6 hl' hR' hh hq, kS, b220_21]
    exact fin _ _ _ _ _ _ _ (zFr_0 zFr_r) rfl
theorem T_rest {d pl dr : Nat} {cp cw rp : Option Nat} {ia : Nat → Nat → Int32} {la : Nat → Nat → Int64} {Kc : Option Value → zHP → Prop} {Km : Option Value → Option Value → zHP → Prop} {x1 x2 x3 : Int32} (hI : zInv pl dr ia la) (hc : ∀ v hp, zWM (d + 400) 221 [.ref 127, .int x1, .int x2, .int x3] hp (Km v) → Kc v hp) (hm : zEndK ia Km) : zWM (d + 400) 112 [.ref 0, .int x1, .int x2, .int x3] (ia, la, zRA pl dr cp cw rp) Kc := by
  have fin := zfin hI hm
  obtain ⟨i1, i2, i3, i4, i5, i6, i7, p, N, L, T, D, W, r, hC, hM, hDe, hNo⟩ := hI
  have hN6 : N ≤ 6 := hC.2.1.2.1
  have hT12 : T ≤ 12 := hC.2.1.2.2.2.2.2.1
  have hR' : zPR p (zu ia 127 0 0) N L T := zPR_i (fun c h1 h2 => zu_o (by omega)) hC.2.2.1
  have hl' : zHas N 0 W r (zu ia 127 0 0) := zHas_fr (la := la) (lb := la) (by decide) (zFr_0 zFr_r) (zC_0 hC)
  rw [e112, b112_0, S_two i1 hC, kS, b112_6]
  generalize hv : (if x1 < 0 ∨ nI N ≤ x1 then (0 : Int32) else if x2 < 0 ∨ nI N ≤ x2 then 0 else if x1 = x2 then 0 else 1) = v
  have m0 : ∀ K : Option Value → zHP → Prop, zWM (d + 400) 221 [.ref 127, .int x1, .int x2, .int x3] (ia, la, zRA pl dr cp cw rp) K = (if v = 0 then K (some (.int (-1))) (zu ia 127 0 0, la, zRA pl dr cp cw rp) else if x3 < 0 then K (some (.int (-1))) (zu ia 127 0 0, la, zRA pl dr cp cw rp) else zWM (d + 399) 218 [.ref 127, .int x1, .int x2, .int x3] (zu ia 127 0 0, la, zRA pl dr cp cw rp) (zK (d + 400) 221 25 [some (.ref 127), some (.int x1), some (.int x2), some (.int x3)] [] K)) := by
    intro K
    rw [e221, b221_0, S_twoM hR', kS, b221_11, hv]
  by_cases e : v = 0
  · rw [if_pos e]
    refine hc _ _ ?_
    rw [m0, if_pos e]
    exact fin _ _ _ _ _ _ _ (zFr_0 zFr_r) rfl
  rw [if_neg e]
  by_cases e3 : x3 < 0
  · rw [if_neg (Int32.not_le.mpr e3)]
    refine hc _ _ ?_
    rw [m0, if_neg e, if_pos e3]
    exact fin _ _ _ _ _ _ _ (zFr_0 zFr_r) rfl
  rw [if_pos (Int32.not_lt.mp e3)]
  rcases zpers x1 (N := N) (by omega) with h1 | ⟨h, hh, rfl, hn⟩
  · rw [if_pos h1] at hv; exact absurd hv.symm e
  rcases zpers x2 (N := N) (by omega) with h2 | ⟨q, hq, rfl, hn2⟩
  · rw [if_neg hn, if_pos h2] at hv; exact absurd hv.symm e
  have n1 : ¬ x3 = -1 := fun z => e3 (by rw [z]; decide)
  have lp : ∀ n i c, i + n = 4 → zWP (d + 400) 112 21 [some (.ref 0), some (.int (nI h)), some (.int (nI q)), some (.int x3), some (.int (nI c)), some (.int (nI i))] [] (ia, la, zRA pl dr cp cw rp) Kc = Kc (some (.int (zRk (fun i => zRs W p h q (nI i / 2) (nI i - nI i / 2 * 2)) x3 n i c))) (ia, la, zRA pl dr cp cw rp) := by
    intro n
    induction n with
    | zero =>
      intro i c hi
      rw [b112_21, if_pos (show (4 : Int32) ≤ nI i from nI_le1 (a := 4) (by omega) (by omega))]
      unfold zRk
      rw [if_neg n1]
    | succ n ih =>
      intro i c hi
      rw [b112_21, if_neg (show ¬ (4 : Int32) ≤ nI i from nI_nle1 (a := 4) (by omega) (by omega)), S_rs i1 hC (by omega) (by omega), kS, b112_41, ns, ns]
      unfold zRk
      by_cases e : zRs W p h q (nI i / 2) (nI i - nI i / 2 * 2) = 0
      · rw [if_pos e, if_pos e]
        exact ih (i + 1) c (by omega)
      · rw [if_neg e, if_neg e]
        by_cases e2 : nI c = x3
        · rw [if_neg (fun z => z e2), if_pos e2]
        · rw [if_pos e2, if_neg e2]
          exact ih (i + 1) (c + 1) (by omega)
  refine Eq.mpr (lp 4 0 0 (by omega)) ?_
  refine hc _ _ ?_
  rw [m0, if_neg e, if_neg e3, S_rkM hN6 hl' hR' hh hq, kS, b221_25]
  exact fin _ _ _ _ _ _ _ (zFr_0 zFr_r) rfl
