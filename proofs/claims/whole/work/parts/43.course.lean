/-! the class's world and course -/
def zct (x : Int32) : Nat := x.toNatClampNeg
theorem zct_n {n : Nat} (h : n < 100000) : zct (nI n) = n := zcln h
def zany (P : Nat → Bool) : Nat → Bool
  | 0 => false
  | n + 1 => zany P n || P n
theorem zany_iff (P : Nat → Bool) : ∀ n : Nat, zany P n = true ↔ ∃ j, j < n ∧ P j = true := by
  intro n
  induction n with
  | zero => simp [zany]
  | succ n ih =>
    unfold zany
    rw [Bool.or_eq_true, ih]
    constructor
    · rintro (⟨j, h, q⟩ | q)
      · exact ⟨j, by omega, q⟩
      · exact ⟨n, by omega, q⟩
    · rintro ⟨j, h, q⟩
      by_cases e : j = n
      · subst e; exact Or.inr q
      · exact Or.inl ⟨j, by omega, q⟩
theorem zany_mono {P : Nat → Bool} {i n : Nat} (hi : i < n) (h : P i = true) : zany P n = true := (zany_iff P n).mpr ⟨i, hi, h⟩
def zHd (W : Nat → Nat → Int32) (h : Nat) : Int32 := if W 3 h < 0 then nI h else W 3 h
def zOver (W : Nat → Nat → Int32) (h m : Nat) (days rent : Int32) : Nat → Nat → Int32 :=
  zu (zu (zu (zu W 3 h (nI m)) 4 h days) 1 m ((zu (zu W 3 h (nI m)) 4 h days) 1 m - rent)) 1 h
    (if (zu (zu (zu W 3 h (nI m)) 4 h days) 1 m ((zu (zu W 3 h (nI m)) 4 h days) 1 m - rent)) 1 h + rent < 9999 then (zu (zu (zu W 3 h (nI m)) 4 h days) 1 m ((zu (zu W 3 h (nI m)) 4 h days) 1 m - rent)) 1 h + rent else 9999)
/-- the lease k on its day -/
def zLease (p : Nat → Nat → Int32) (o : Nat → Int32) (k : Nat) (W : Nat → Nat → Int32) : Nat → Nat → Int32 :=
  if ¬ p (5 + k) 2 = W 0 0 then W else
  if ¬ p (5 + k) 1 = o 5 then
    (if W 3 (zct (p (5 + k) 0)) < 0 ∧ ¬ W 1 (zct (p (5 + k) 1)) < zBnd p o W 0 (zct (p (5 + k) 0)) (zct (p (5 + k) 1)) (p (5 + k) 4) then
      zOver W (zct (p (5 + k) 0)) (zct (p (5 + k) 1)) (p (5 + k) 3) (zBnd p o W 0 (zct (p (5 + k) 0)) (zct (p (5 + k) 1)) (p (5 + k) 4))
    else zu W 0 14 (W 0 14 + 1))
  else W
def zClP (p W : Nat → Nat → Int32) (k j : Nat) : Bool := decide (p (16 + j) 1 = p (16 + k) 1 ∧ p (16 + j) 2 = p (16 + k) 2 ∧ ¬ W 6 j = 0)
/-- the letter k written: its traits -/
def zWr1 (p : Nat → Nat → Int32) (k b h : Nat) (good : Bool) (j : Nat) (V : Nat → Nat → Int32) : Nat → Nat → Int32 := zu V 9 (3 * k + j) (if good = true then V 2 (3 * h + j) else (V 2 (3 * h + j) + 1000 * p 2 (3 * b + j)) / 2)
def zWr2 (c : Bool) (k : Nat) (V : Nat → Nat → Int32) : Nat → Nat → Int32 := if c = true then zu (zu V 7 k 1) 0 12 ((zu V 7 k 1) 0 12 + 1) else V
def zWr3 (good : Bool) (k : Nat) (V : Nat → Nat → Int32) : Nat → Nat → Int32 := if good = true then zu V 6 k 1 else zu (zu V 6 k 2) 0 11 ((zu V 6 k 2) 0 11 + 1)
def zWrite (p : Nat → Nat → Int32) (k : Nat) (W : Nat → Nat → Int32) : Nat → Nat → Int32 :=
  zWr3 (decide (zHd W (zct (p (16 + k) 1)) = p (16 + k) 0)) k (zWr2 (zany (zClP p W k) k) k
    (zit (zWr1 p k (zct (p (16 + k) 0)) (zct (p (16 + k) 1)) (decide (zHd W (zct (p (16 + k) 1)) = p (16 + k) 0))) 3 W))
def zLet (p : Nat → Nat → Int32) (o : Nat → Int32) (k : Nat) (W : Nat → Nat → Int32) : Nat → Nat → Int32 :=
  if ¬ p (16 + k) 2 = W 0 0 then W else if p (16 + k) 0 = o 5 then W else zWrite p k W
/-- whether the bank looks, and the last number then -/
def zBk (p : Nat → Nat → Int32) (o : Nat → Int32) (r : Int64) : Int32 × Int64 :=
  if o 3 = 1 then (if p 28 1 < 50 then 0 else 1, r) else if o 3 = 2 then (0, r) else if o 3 = 3 then (1, r) else
  if p 28 1 = 100 then (1, r) else if p 28 1 ≤ 0 then (0, r) else
  (if p 28 1 ≤ (((r * 1103515245 + 12345) &&& 2147483647) / 65536).toInt32 - (((r * 1103515245 + 12345) &&& 2147483647) / 65536).toInt32 / 100 * 100 then 0 else 1, (r * 1103515245 + 12345) &&& 2147483647)
def zFn1 (k : Nat) (W : Nat → Nat → Int32) : Nat → Nat → Int32 := zu (zu W 8 k 1) 0 13 ((zu W 8 k 1) 0 13 + 1)
def zFind (p : Nat → Nat → Int32) (o : Nat → Int32) (k : Nat) (W : Nat → Nat → Int32) : Nat → Nat → Int32 :=
  if ¬ p (16 + k) 2 = W 0 0 then W else if ¬ W 6 k = 2 then W else
  zu (zFn1 k W) 1 (zct (p (16 + k) 0)) (if 0 < zFn1 k W 1 (zct (p (16 + k) 0)) - zBnd p o (zFn1 k W) 2 (zct (p (16 + k) 1)) (zct (p (16 + k) 0)) 0 then zFn1 k W 1 (zct (p (16 + k) 0)) - zBnd p o (zFn1 k W) 2 (zct (p (16 + k) 1)) (zct (p (16 + k) 0)) 0 else 0)
def zBk1 (p : Nat → Nat → Int32) (h t : Nat) (turn : Int32) (j : Nat) (V : Nat → Nat → Int32) : Nat → Nat → Int32 := zu V 2 (3 * h + j) (V 2 (3 * h + j) + (1000 * p 2 (3 * t + j) - V 2 (3 * h + j)) * turn / 1000)
def zBk2 (h : Nat) (V : Nat → Nat → Int32) : Nat → Nat → Int32 := zu (zu (zu V 3 h (-2)) 4 h 0) 5 h ((zu (zu V 3 h (-2)) 4 h 0) 5 h + 1)
/-- the hand h comes back -/
def zBack (p : Nat → Nat → Int32) (o : Nat → Int32) (h : Nat) (W : Nat → Nat → Int32) : Nat → Nat → Int32 := zBk2 h (zit (zBk1 p h (zct (W 3 h)) (zBnd p o W 1 h (zct (W 3 h)) 0)) 3 W)
def zEnd1 (p : Nat → Nat → Int32) (o : Nat → Int32) (h : Nat) (W : Nat → Nat → Int32) : Nat → Nat → Int32 :=
  if W 3 h < 0 then W else if 0 < W 4 h - 1 then zu W 4 h (W 4 h - 1) else zBack p o h (zu W 4 h (W 4 h - 1))
def zMid (p : Nat → Nat → Int32) (o : Nat → Int32) (W : Nat → Nat → Int32) (r : Int64) : (Nat → Nat → Int32) × Int64 :=
  if 99 < W 0 0 then (W, r) else
  if zit (zLet p o) (zct (p 0 3)) (zit (zLease p o) (zct (p 0 2)) W) 0 11 ≤ zit (zLease p o) (zct (p 0 2)) W 0 11 then (zit (zLet p o) (zct (p 0 3)) (zit (zLease p o) (zct (p 0 2)) W), r) else
  if (zBk p o r).1 = 0 then (zit (zLet p o) (zct (p 0 3)) (zit (zLease p o) (zct (p 0 2)) W), (zBk p o r).2) else
  (zit (zFind p o) (zct (p 0 3)) (zit (zLet p o) (zct (p 0 3)) (zit (zLease p o) (zct (p 0 2)) W)), (zBk p o r).2)
def zDay (p : Nat → Nat → Int32) (o : Nat → Int32) (W : Nat → Nat → Int32) (r : Int64) : (Nat → Nat → Int32) × Int64 :=
  (zu (zit (zEnd1 p o) (zct (p 0 1)) (zMid p o W r).1) 0 0 (zit (zEnd1 p o) (zct (p 0 1)) (zMid p o W r).1 0 0 + 1), (zMid p o W r).2)
/-- numbers and rows of a plan -/
def zPk (p : Nat → Nat → Int32) (N L T : Nat) : Prop := p 0 1 = nI N ∧ N ≤ 6 ∧ p 0 2 = nI L ∧ L ≤ 10 ∧ p 0 3 = nI T ∧ T ≤ 12 ∧
  (∀ k, k < L → ∃ h m t n c, h < N ∧ m < N ∧ h ≠ m ∧ t < 100 ∧ 0 < n ∧ n < 100 ∧ c < 100 ∧ p (5 + k) 0 = nI h ∧ p (5 + k) 1 = nI m ∧ p (5 + k) 2 = nI t ∧ p (5 + k) 3 = nI n ∧ p (5 + k) 4 = nI c) ∧
  (∀ k, k < T → ∃ b h t, b < N ∧ h < N ∧ t < 100 ∧ p (16 + k) 0 = nI b ∧ p (16 + k) 1 = nI h ∧ p (16 + k) 2 = nI t) ∧ zLk p ∧
  (∃ a, a ≤ 100 ∧ p 28 0 = nI a) ∧ (∃ a, a ≤ 100 ∧ p 28 1 = nI a) ∧ (∃ a, a < 100000 ∧ p 28 2 = nI a) ∧
  (∀ i, i < 3 * N → ∃ a, a < 100 ∧ p 2 i = nI a) ∧ (∀ i, i < N → ∃ a, a < 1000 ∧ p 3 i = nI a)
theorem zk_lease {p i : Nat} (hp : zIsP p) (hi : i < 10) : zkd (p + (5 + i)) = 100 ∧ zln (p + (5 + i)) = 5 := by
  have := zkrow_l hp (zvi hi (by omega))
  rw [zcln (by omega), Nat.add_assoc] at this
  exact this
theorem zk_letter {p i : Nat} (hp : zIsP p) (hi : i < 12) : zkd (p + (16 + i)) = 100 ∧ zln (p + (16 + i)) = 3 := by
  have := zkrow_t hp (zvi hi (by omega))
  rw [zcln (by omega), Nat.add_assoc] at this
  exact this
section ZP
variable {d pl dr p w N L T : Nat} {cp cw rp : Option Nat} {ia W : Nat → Nat → Int32} {la : Nat → Nat → Int64} {K : Option Value → zHP → Prop}
theorem S_holder {h : Nat} (hw : zIsW w) (hh : h < 6) : zWM (d + 1) 70 [.ref w, .int (nI h)] (zPW w W ia, la, zRA pl dr cp cw rp) K = K (some (.int (zHd W h))) (zPW w W ia, la, zRA pl dr cp cw rp) := by
  rw [e70, b70_0 hw, S_isLet hw hh, kS, b70_5 hw, zPW_g (by omega), zg (by omega) (by omega), zcln (by omega)]
  unfold zHd
  by_cases h1 : W 3 h < 0
  · simp only [h1, if_true]
  · simp only [h1, if_false]; rfl
theorem S_may {h m : Nat} {rent : Int32} (hw : zIsW w) (hh : h < 6) (hm : m < 6) : zWM (d + 1) 71 [.ref w, .int (nI h), .int (nI m), .int rent] (zPW w W ia, la, zRA pl dr cp cw rp) K = K (some (.int (if W 3 h < 0 ∧ ¬ W 1 m < rent then 1 else 0))) (zPW w W ia, la, zRA pl dr cp cw rp) := by
  rw [e71, b71_0 hw, S_isLet hw hh, kS, b71_5 hw, zPW_g (by omega), zg (by omega) (by omega), zPW_g (by omega), zcln (by omega)]
  by_cases h1 : W 3 h < 0
  · by_cases h2 : W 1 m < rent
    · simp [h1, h2]
    · simp [h1, h2]
  · simp [h1]
theorem S_over {h m : Nat} {days rent : Int32} (hw : zIsW w) (hh : h < 6) (hm : m < 6) : zWM (d + 5) 72 [.ref w, .int (nI h), .int (nI m), .int days, .int rent] (zPW w W ia, la, zRA pl dr cp cw rp) K = K none (zPW w (zOver W h m days rent) ia, la, zRA pl dr cp cw rp) := by
  rw [e72, b72_0 hw, zg (by omega) (by omega), zg (by omega) (by omega), zcln (by omega), zcln (by omega)]
  simp only [zPW_u (show 3 < 10 by omega), zPW_u (show 4 < 10 by omega), zPW_u (show 1 < 10 by omega), zPW_g (show 1 < 10 by omega)]
  rfl
theorem S_leases (hw : zIsW w) (hp : zIsP p) (hk : zPk (fun g => ia (p + g)) N L T) (hK : ∀ la', zL5 la la' → K none (zPW w (zit (zLease (fun g => ia (p + g)) (ia 102)) L W) ia, la', zRA pl dr (some p) (some w) rp)) : zWM (d + 6) 3 [.ref 102] (zPW w W ia, la, zRA pl dr (some p) (some w) rp) K := by
  obtain ⟨_, hN, eL, hL, _, _, hl, _, hlk, _⟩ := hk
  dsimp only at eL hl
  rw [e3, b3_0]
  refine zlpI (fun i => ∀ la' a2 a3 a4 a5, zL5 la la' → zWP (d + 6) 3 2 [some (.ref 102), some (.int (nI i)), a2, a3, a4, a5] [] (zPW w (zit (zLease (fun g => ia (p + g)) (ia 102)) i W) ia, la', zRA pl dr (some p) (some w) rp) K) L ?_ ?_ la none none none none (zL5_r la)
  · intro i hi ih la' a2 a3 a4 a5 h5
    obtain ⟨h, m, t, n, c, hh, hm, hne, ht, hn0, hn, hc, e0, e1, e2, e3, e4⟩ := hl i hi
    unfold zit at ih
    generalize zit (zLease (fun g => ia (p + g)) (ia 102)) i W = V at ih ⊢
    rw [b3_2 hp hw, zPW_p0 hw hp, show ia p 2 = nI L from eL, if_neg (nI_nle1 hi (by omega)), zg (by omega) (by omega), zcln (by omega), Nat.add_assoc, zPW_p hw hp (by omega), zPW_0, zPW_102 hw (by omega), e0, e1, e2, ns]
    unfold zLease at ih
    dsimp only at ih
    simp only [e0, e1, e2, zct_n (show h < 100000 by omega), zct_n (show m < 100000 by omega)] at ih
    by_cases h1 : nI t = V 0 0
    · rw [if_neg (fun q => q h1)]
      rw [if_neg (fun q => q h1)] at ih
      by_cases h2 : nI m = ia 102 5
      · rw [if_neg (fun q => q h2)]
        rw [if_neg (fun q => q h2)] at ih
        exact ih _ _ _ _ _ h5
      · rw [if_pos h2]
        rw [if_pos h2] at ih
        refine S_bnd (r := 0) hp hw (by omega) (by omega) (by omega) hlk (fun la2 h6 => ?_)
        rw [kS, b3_68 hw, S_may hw (by omega) (by omega), kS, b3_82 hw]
        by_cases h7 : V 3 h < 0 ∧ ¬ V 1 m < zBnd (fun g => ia (p + g)) (ia 102) V 0 h m (ia (p + (5 + i)) 4)
        · rw [if_pos h7] at ih ⊢
          rw [if_neg (by decide), zdrop (by have := zk_lease hp (show i < 10 by omega); rw [this.1, this.2]; exact ⟨rfl, zvi (n := 3) (by omega) (by omega)⟩), S_over hw (by omega) (by omega), kN, b3_100, ns, zPW_p hw hp (by omega)]
          exact ih _ _ _ _ _ (zL5_t h5 h6)
        · rw [if_neg h7] at ih ⊢
          rw [if_pos rfl, ns, zPW_0, zPW_u0]
          exact ih _ _ _ _ _ (zL5_t h5 h6)
    · rw [if_pos h1]
      rw [if_pos h1] at ih
      exact ih _ _ _ _ _ h5
  · intro la' a2 a3 a4 a5 h5
    rw [b3_2 hp hw, zPW_p0 hw hp, show ia p 2 = nI L from eL, if_pos (nI_le1 (by omega) (by omega))]
    exact hK la' h5
theorem S_clash {k : Nat} (hw : zIsW w) (hp : zIsP p) (hk : k < 12) : zWM d 6 [.ref 102, .int (nI k)] (zPW w W ia, la, zRA pl dr (some p) (some w) rp) K = K (some (.int (if zany (zClP (fun g => ia (p + g)) W k) k = true then 1 else 0))) (zPW w W ia, la, zRA pl dr (some p) (some w) rp) := by
  rw [e6, b6_0 hp, zg (by omega) (by omega), zcln (by omega), Nat.add_assoc]
  have key : ∀ (n i : Nat) (a4 : Option Value), i + n = k → ¬ zany (zClP (fun g => ia (p + g)) W k) i = true → zWP d 6 12 [some (.ref 102), some (.int (nI k)), some (.ref (p + (16 + k))), some (.int (nI i)), a4] [] (zPW w W ia, la, zRA pl dr (some p) (some w) rp) K = K (some (.int (if zany (zClP (fun g => ia (p + g)) W k) k = true then 1 else 0))) (zPW w W ia, la, zRA pl dr (some p) (some w) rp) := by
    intro n
    induction n with
    | zero =>
      intro i a4 hi hz
      rw [b6_12 hp hw, if_pos (nI_le1 (by omega) (by omega))]
      rw [show i = k by omega] at hz
      rw [if_neg hz]
    | succ n ih =>
      intro i a4 hi hz
      have hrow := zk_letter hp hk
      rw [b6_12 hp hw, if_neg (nI_nle1 (by omega) (by omega)), zg (by omega) (by omega), hrow.1, hrow.2, zdrop ⟨rfl, zvi (n := 1) (by omega) (by omega)⟩, zdrop ⟨rfl, zvi (n := 2) (by omega) (by omega)⟩, zcln (by omega), ns, Nat.add_assoc, zPW_p hw hp (by omega), zPW_p hw hp (by omega), zPW_g (by omega)]
      have step : ¬ (ia (p + (16 + i)) 1 = ia (p + (16 + k)) 1 ∧ ia (p + (16 + i)) 2 = ia (p + (16 + k)) 2 ∧ ¬ W 6 i = 0) → ¬ zany (zClP (fun g => ia (p + g)) W k) (i + 1) = true := by
        intro h
        unfold zany
        rw [Bool.or_eq_true]
        intro q
        rcases q with q | q
        · exact hz q
        · unfold zClP at q
          exact h (of_decide_eq_true q)
      by_cases c1 : ia (p + (16 + i)) 1 = ia (p + (16 + k)) 1
      · rw [if_neg (fun q => q c1)]
        by_cases c2 : ia (p + (16 + i)) 2 = ia (p + (16 + k)) 2
        · rw [if_neg (fun q => q c2)]
          by_cases c3 : W 6 i = 0
          · rw [if_pos c3]
            exact ih _ _ (by omega) (step (fun q => q.2.2 c3))
          · rw [if_neg c3, if_pos (zany_mono (i := i) (by omega) (by unfold zClP; exact decide_eq_true ⟨c1, c2, c3⟩))]
        · rw [if_pos c2]
          exact ih _ _ (by omega) (step (fun q => c2 q.2.1))
      · rw [if_pos c1]
        exact ih _ _ (by omega) (step (fun q => c1 q.1))
  exact key k 0 none (by omega) (by unfold zany; decide)
theorem S_write {k b h : Nat} (hw : zIsW w) (hp : zIsP p) (hk : k < 12) (hb : b < 6) (hh : h < 6) (e0 : ia (p + (16 + k)) 0 = nI b) (e1 : ia (p + (16 + k)) 1 = nI h) : zWM (d + 2) 5 [.ref 102, .int (nI k), .int (nI b), .int (nI h)] (zPW w W ia, la, zRA pl dr (some p) (some w) rp) K = K none (zPW w (zWrite (fun g => ia (p + g)) k W) ia, la, zRA pl dr (some p) (some w) rp) := by
  unfold zWrite
  simp only [e0, e1, zct_n (show h < 100000 by omega), zct_n (show b < 100000 by omega)]
  rw [e5, b5_0 hw, S_holder hw hh, kS, b5_8]
  generalize hg : decide (zHd W h = nI b) = good
  have ent : (if ¬ zHd W h = nI b then zWP (d + 2) 5 22 [some (.ref 102), some (.int (nI k)), some (.int (nI b)), some (.int (nI h)), some (.int 0), some (.int 0), none, none] [] (zPW w W ia, la, zRA pl dr (some p) (some w) rp) K else zWP (d + 2) 5 22 [some (.ref 102), some (.int (nI k)), some (.int (nI b)), some (.int (nI h)), some (.int 1), some (.int 0), none, none] [] (zPW w W ia, la, zRA pl dr (some p) (some w) rp) K) = zWP (d + 2) 5 22 [some (.ref 102), some (.int (nI k)), some (.int (nI b)), some (.int (nI h)), some (.int (if good = true then 1 else 0)), some (.int (nI 0)), none, none] [] (zPW w W ia, la, zRA pl dr (some p) (some w) rp) K := by
    subst hg
    by_cases c : zHd W h = nI b
    · simp only [c, not_true, if_false, decide_true, if_true]; rfl
    · simp only [c, not_false_eq_true, if_true, decide_false, Bool.false_eq_true, if_false]; rfl
  rw [ent]
  have lp : ∀ (j : Nat) (V : Nat → Nat → Int32) (a6 a7 : Option Value), j < 3 → ∃ a6' a7', zWP (d + 2) 5 22 [some (.ref 102), some (.int (nI k)), some (.int (nI b)), some (.int (nI h)), some (.int (if good = true then 1 else 0)), some (.int (nI j)), a6, a7] [] (zPW w V ia, la, zRA pl dr (some p) (some w) rp) K = zWP (d + 2) 5 22 [some (.ref 102), some (.int (nI k)), some (.int (nI b)), some (.int (nI h)), some (.int (if good = true then 1 else 0)), some (.int (nI (j + 1))), a6', a7'] [] (zPW w (zWr1 (fun g => ia (p + g)) k b h good j V) ia, la, zRA pl dr (some p) (some w) rp) K := by
    intro j V a6 a7 hj
    refine ⟨some (.int (V 2 (3 * h + j))), some (.int (if good = true then V 2 (3 * h + j) else (V 2 (3 * h + j) + 1000 * ia (p + 2) (3 * b + j)) / 2)), ?_⟩
    rw [b5_22 hp hw, if_neg (z3le hj), n3, n3, zg (by omega) (by omega), zg (by omega) (by omega), zPW_g (by omega), zcln (by omega), zcln (by omega), zPW_p hw hp (by omega), b5_77 hw, b5_77 hw, n3, zg (by omega) (by omega), zg (by omega) (by omega), zcln (by omega), zPW_u (by omega), zPW_u (by omega), ns]
    unfold zWr1
    dsimp only
    cases good
    · simp only [Bool.false_eq_true, if_false, if_true]
    · simp only [if_true]
      rfl
  obtain ⟨x1, y1, l1⟩ := lp 0 W none none (by omega)
  obtain ⟨x2, y2, l2⟩ := lp 1 (zWr1 (fun g => ia (p + g)) k b h good 0 W) x1 y1 (by omega)
  obtain ⟨x3, y3, l3⟩ := lp 2 (zWr1 (fun g => ia (p + g)) k b h good 1 (zWr1 (fun g => ia (p + g)) k b h good 0 W)) x2 y2 (by omega)
  rw [l1, l2, l3]
  have e6 : (zWr1 (fun g => ia (p + g)) k b h good 2 (zWr1 (fun g => ia (p + g)) k b h good 1 (zWr1 (fun g => ia (p + g)) k b h good 0 W))) 6 = W 6 := by
    unfold zWr1
    rw [zu_o (by decide), zu_o (by decide), zu_o (by decide)]
  show zWP (d + 2) 5 22 _ [] (zPW w (zWr1 (fun g => ia (p + g)) k b h good 2 (zWr1 (fun g => ia (p + g)) k b h good 1 (zWr1 (fun g => ia (p + g)) k b h good 0 W))) ia, la, zRA pl dr (some p) (some w) rp) K = K none (zPW w (zWr3 good k (zWr2 (zany (zClP (fun g => ia (p + g)) W k) k) k (zWr1 (fun g => ia (p + g)) k b h good 2 (zWr1 (fun g => ia (p + g)) k b h good 1 (zWr1 (fun g => ia (p + g)) k b h good 0 W))))) ia, la, zRA pl dr (some p) (some w) rp)
  have ec : zany (zClP (fun g => ia (p + g)) W k) k = zany (zClP (fun g => ia (p + g)) (zWr1 (fun g => ia (p + g)) k b h good 2 (zWr1 (fun g => ia (p + g)) k b h good 1 (zWr1 (fun g => ia (p + g)) k b h good 0 W))) k) k := by
    congr 1
  rw [ec]
  generalize zWr1 (fun g => ia (p + g)) k b h good 2 (zWr1 (fun g => ia (p + g)) k b h good 1 (zWr1 (fun g => ia (p + g)) k b h good 0 W)) = V
  rw [b5_22 hp hw, if_pos (by decide), S_clash hw hp hk, kS, b5_106 hw]
  generalize zany (zClP (fun g => ia (p + g)) V k) k = c
  have e132 : ∀ V2 : Nat → Nat → Int32, zWP (d + 2) 5 132 [some (.ref 102), some (.int (nI k)), some (.int (nI b)), some (.int (nI h)), some (.int (if good = true then 1 else 0)), some (.int (nI (2 + 1))), x3, y3] [] (zPW w V2 ia, la, zRA pl dr (some p) (some w) rp) K = K none (zPW w (zWr3 good k V2) ia, la, zRA pl dr (some p) (some w) rp) := by
    intro V2
    rw [b5_132 hw, b5_150 hw, b5_150 hw, zg (by omega) (by omega), zg (by omega) (by omega), zcln (by omega)]
    simp only [zPW_u (show 6 < 10 by omega), zPW_0, zPW_u0]
    unfold zWr3
    cases good
    · simp
    · simp
  rw [zg (by omega) (by omega), zcln (by omega), zPW_u (by omega), zPW_0, zPW_u0]
  have e132' : ∀ V2 : Nat → Nat → Int32, zWP (d + 1 + 1) 5 132 [some (.ref 102), some (.int (nI k)), some (.int (nI b)), some (.int (nI h)), some (.int (if good = true then 1 else 0)), some (.int (nI (2 + 1))), x3, y3] [] (zPW w V2 ia, la, zRA pl dr (some p) (some w) rp) K = K none (zPW w (zWr3 good k V2) ia, la, zRA pl dr (some p) (some w) rp) := e132
  rw [e132', e132']
  unfold zWr2
  cases c
  · simp
  · simp
theorem S_letters (hw : zIsW w) (hp : zIsP p) (hk : zPk (fun g => ia (p + g)) N L T) : zWM (d + 3) 4 [.ref 102] (zPW w W ia, la, zRA pl dr (some p) (some w) rp) K = K none (zPW w (zit (zLet (fun g => ia (p + g)) (ia 102)) T W) ia, la, zRA pl dr (some p) (some w) rp) := by
  obtain ⟨_, hN, _, _, eT, hT, _, ht, _, _⟩ := hk
  dsimp only at eT ht
  rw [e4, b4_0]
  have lp : ∀ (n i : Nat) (a2 : Option Value), i + n = T → zWP (d + 3) 4 2 [some (.ref 102), some (.int (nI i)), a2] [] (zPW w (zit (zLet (fun g => ia (p + g)) (ia 102)) i W) ia, la, zRA pl dr (some p) (some w) rp) K = K none (zPW w (zit (zLet (fun g => ia (p + g)) (ia 102)) T W) ia, la, zRA pl dr (some p) (some w) rp) := by
    intro n
    induction n with
    | zero =>
      intro i a2 hi
      rw [b4_2 hp hw, zPW_p0 hw hp, show ia p 3 = nI T from eT, if_pos (nI_le1 (by omega) (by omega)), show i = T by omega]
    | succ n ih =>
      intro i a2 hi
      obtain ⟨b, h, t, hb, hh, h100, q0, q1, q2⟩ := ht i (by omega)
      have ih := fun a2 => ih (i + 1) a2 (by omega)
      rw [show zit (zLet (fun g => ia (p + g)) (ia 102)) (i + 1) W = zLet (fun g => ia (p + g)) (ia 102) i (zit (zLet (fun g => ia (p + g)) (ia 102)) i W) from rfl] at ih
      generalize zit (zLet (fun g => ia (p + g)) (ia 102)) i W = V at ih ⊢
      rw [b4_2 hp hw, zPW_p0 hw hp, show ia p 3 = nI T from eT, if_neg (nI_nle1 (by omega) (by omega)), zg (by omega) (by omega), zcln (by omega), Nat.add_assoc, zPW_p hw hp (by omega), zPW_0, zPW_102 hw (by omega), ns]
      unfold zLet at ih
      dsimp only at ih
      by_cases c1 : ia (p + (16 + i)) 2 = V 0 0
      · rw [if_neg (fun q => q c1)]
        rw [if_neg (fun q => q c1)] at ih
        by_cases c2 : ia (p + (16 + i)) 0 = ia 102 5
        · rw [if_pos c2]
          rw [if_pos c2] at ih
          exact ih _
        · rw [if_neg c2]
          rw [if_neg c2] at ih
          rw [q0, q1, S_write hw hp (by omega) (by omega) (by omega) q0 q1, kN, b4_57, ns]
          exact ih _
      · rw [if_pos c1]
        rw [if_pos c1] at ih
        exact ih _
  exact lp T 0 none (by omega)
end ZP
