/-! the reference's world -/
/-- the reference's plan and the class's -/
def zPR (p ia : Nat → Nat → Int32) (N L T : Nat) : Prop :=
  ia 129 0 = nI N ∧ ia 129 1 = nI L ∧ ia 129 2 = nI T ∧ ia 129 3 = p 28 0 ∧ ia 129 4 = p 28 1 ∧ ia 129 5 = p 28 2 ∧ ia 129 6 = p 0 4 ∧
  (∀ i, i < N → ia 130 i = p 1 i) ∧ (∀ i, i < 3 * N → ia 131 i = p 2 i) ∧ (∀ i, i < N → ia 132 i = p 3 i) ∧
  (∀ k, k < L → ia 133 k = p (5 + k) 0 ∧ ia 134 k = p (5 + k) 1 ∧ ia 135 k = p (5 + k) 2 ∧ ia 136 k = p (5 + k) 3 ∧ ia 137 k = p (5 + k) 4) ∧
  (∀ k, k < T → ia 138 k = p (16 + k) 0 ∧ ia 139 k = p (16 + k) 1 ∧ ia 140 k = p (16 + k) 2) ∧
  (∀ r, r < 3 → ia 141 r = p 29 r ∧ ia 142 r = p 30 r ∧ (∀ j, zct (p 29 r) ≤ j → j < zct (p 30 r) → zKE (p 31 j) (p 32 j) (ia 143 j) (ia 144 j)) ∧ (zct (p 29 r) < zct (p 30 r) → zchk p (zct (p 30 r) - zct (p 29 r)) (zct (p 29 r)) 0))
/-- how the reference's days go and how the class's do -/
def zOp (p : Nat → Nat → Int32) (o : Nat → Int32) (ia : Nat → Nat → Int32) (bn : Int32) : Prop :=
  (ia 127 49 = 3 ↔ ¬ o 6 = 0) ∧ (ia 127 49 = 4 ↔ ¬ o 7 = 0) ∧ (o 4 = if ia 127 51 = -1 then p 28 0 else ia 127 51) ∧
  (∀ n, n < 6 → (nI n = o 5 ↔ ia 127 49 = 2 ∧ nI n = ia 127 50)) ∧
  (ia 127 49 = 5 → o 3 = 2) ∧ (ia 127 49 = 1 → o 3 = 3) ∧ (¬ ia 127 49 = 5 → ¬ ia 127 49 = 1 → (bn = 0 → o 3 = 1) ∧ (¬ bn = 0 → o 3 = 0))
def zSc (ia ia' : Nat → Nat → Int32) : Prop := ∃ x, ia' = zu ia 127 34 x
theorem zSc_r (ia : Nat → Nat → Int32) : zSc ia ia := ⟨ia 127 34, (zu_id _ _ _).symm⟩
theorem zSc_t {a b c : Nat → Nat → Int32} (h : zSc a b) (h2 : zSc b c) : zSc a c := by
  obtain ⟨x, rfl⟩ := h
  obtain ⟨y, rfl⟩ := h2
  exact ⟨y, zu_zu _ _ _ _ _⟩
theorem zSc_c {a b : Nat → Nat → Int32} (h : zSc a b) {c : Nat} (hc : c ≠ 127) : b c = a c := by
  obtain ⟨x, rfl⟩ := h
  exact zu_o hc
theorem zSc_k {a b : Nat → Nat → Int32} (h : zSc a b) {k : Nat} (hk : k ≠ 34) : b 127 k = a 127 k := by
  obtain ⟨x, rfl⟩ := h
  exact zu_k hk
theorem zPR_sc {p a b : Nat → Nat → Int32} {N L T : Nat} (h : zSc a b) (q : zPR p a N L T) : zPR p b N L T := by
  unfold zPR
  simp only [zSc_c h (show 129 ≠ 127 by decide), zSc_c h (show 130 ≠ 127 by decide), zSc_c h (show 131 ≠ 127 by decide), zSc_c h (show 132 ≠ 127 by decide), zSc_c h (show 133 ≠ 127 by decide), zSc_c h (show 134 ≠ 127 by decide), zSc_c h (show 135 ≠ 127 by decide), zSc_c h (show 136 ≠ 127 by decide), zSc_c h (show 137 ≠ 127 by decide), zSc_c h (show 138 ≠ 127 by decide), zSc_c h (show 139 ≠ 127 by decide), zSc_c h (show 140 ≠ 127 by decide), zSc_c h (show 141 ≠ 127 by decide), zSc_c h (show 142 ≠ 127 by decide), zSc_c h (show 143 ≠ 127 by decide), zSc_c h (show 144 ≠ 127 by decide)]
  exact q
theorem zOp_sc {p a b : Nat → Nat → Int32} {o : Nat → Int32} {bn : Int32} (h : zSc a b) (q : zOp p o a bn) : zOp p o b bn := by
  unfold zOp
  simp only [zSc_k h (show 49 ≠ 34 by decide), zSc_k h (show 50 ≠ 34 by decide), zSc_k h (show 51 ≠ 34 by decide)]
  exact q
theorem zPM_127 {N s k : Nat} {W ia : Nat → Nat → Int32} {r v : Int32} : zu (zPM N s W r ia) 127 k v = zPM N s W r (zu ia 127 k v) := by
  funext c
  by_cases h : c = 127
  · subst h
    rw [zu_self, zPM_o (by omega), zPM_o (by omega), zu_self]
  · rw [zu_o h]
    by_cases q : c < 147 ∨ 158 < c
    · rw [zPM_o q, zPM_o q, zu_o h]
    · revert q
      intro q
      have : ∀ c, 147 ≤ c → c ≤ 158 → zPM N s W r ia c = zPM N s W r (zu ia 127 k v) c := by
        refine zPM_12 (P := fun c => zPM N s W r ia c = zPM N s W r (zu ia 127 k v) c) ?_ ?_ ?_ ?_ ?_ ?_ ?_ ?_ ?_ ?_ ?_ ?_
        · simp only [zPM_147, zu_ne (show (147 : Nat) ≠ 127 by decide)]
        · simp only [zPM_148, zu_ne (show (148 : Nat) ≠ 127 by decide)]
        · simp only [zPM_149, zu_ne (show (149 : Nat) ≠ 127 by decide)]
        · simp only [zPM_150, zu_ne (show (150 : Nat) ≠ 127 by decide)]
        · simp only [zPM_151, zu_ne (show (151 : Nat) ≠ 127 by decide)]
        · simp only [zPM_152, zu_ne (show (152 : Nat) ≠ 127 by decide)]
        · simp only [zPM_153, zu_ne (show (153 : Nat) ≠ 127 by decide)]
        · simp only [zPM_154, zu_ne (show (154 : Nat) ≠ 127 by decide)]
        · simp only [zPM_155, zu_ne (show (155 : Nat) ≠ 127 by decide)]
        · simp only [zPM_156, zu_ne (show (156 : Nat) ≠ 127 by decide)]
        · simp only [zPM_157, zu_ne (show (157 : Nat) ≠ 127 by decide)]
        · simp only [zPM_158, zu_ne (show (158 : Nat) ≠ 127 by decide)]
      exact this c (by omega) (by omega)
section ZP
variable {d pl dr N L T s : Nat} {cp cw rp : Option Nat} {p ia W : Nat → Nat → Int32} {o : Nat → Int32} {r bn : Int32} {la : Nat → Nat → Int64} {K : Option Value → zHP → Prop}
theorem zR152 {h k : Nat} (hh : h < N) (hN : N ≤ 6) (hk : k < 3) : zPM N s W r ia 152 (3 * (6 * s + h) + k) = W 2 (3 * h + k) := by
  rw [zPM_152, show 3 * (6 * s + h) + k = 18 * s + (3 * h + k) by omega, zrB_i (by omega), if_pos (by omega)]
theorem zR153 {h : Nat} (hh : h < 6) : zPM N s W r ia 153 (6 * s + h) = zet (W 3 h) := by rw [zPM_153, zrB_i hh]
theorem zR154 {h : Nat} (hh : h < 6) : zPM N s W r ia 154 (6 * s + h) = W 4 h := by rw [zPM_154, zrB_i hh]
theorem zR155 {h : Nat} (hh : h < 6) : zPM N s W r ia 155 (6 * s + h) = W 5 h := by rw [zPM_155, zrB_i hh]
theorem zR156 {h : Nat} (hh : h < 6) : zPM N s W r ia 156 (6 * s + h) = W 1 h := by rw [zPM_156, zrB_i hh]
theorem zR157 {h : Nat} (hh : h < 12) : zPM N s W r ia 157 (12 * s + h) = W 6 h := by rw [zPM_157, zrB_i hh]
theorem zR147 : zPM N s W r ia 147 s = W 0 0 := by rw [zPM_147, zrS_s]
theorem zR148 : zPM N s W r ia 148 s = r := by rw [zPM_148, zrS_s]
theorem zR149 : zPM N s W r ia 149 s = W 0 14 := by rw [zPM_149, zrS_s]
theorem zR150 : zPM N s W r ia 150 s = zbt (W 7) := by rw [zPM_150, zrS_s]
theorem zR151 : zPM N s W r ia 151 s = zbt (W 8) := by rw [zPM_151, zrS_s]
theorem zNm_b {h m : Nat} {pr : Int32} (i : Nat) : zlb (zNm W h m pr i) := by
  unfold zNm
  split
  · exact zlb_i _
  split
  · exact zlb_i _
  split
  · exact zlb_i _
  split
  · exact zlb_i _
  · exact zlb_i _
theorem S_calls {h m : Nat} {pr : Int32} (hs : s < 23) (hN : N ≤ 6) (hh : h < N) (hm : m < 6) : zWM d 175 [.ref 127, .int (nI s), .int (nI h), .int (nI m), .int pr] (zPM N s W r ia, la, zRA pl dr cp cw rp) K = K none (zPM N s W r ia, zTl la 145 (zNm W h m pr), zRA pl dr cp cw rp) := by
  rw [e175, b175_0]
  rw [b175_3, if_neg (by decide), m6, m3a, zg (by omega) (by omega), v0 (by omega) (by omega), zcln (by omega), i01]
  rw [b175_3, if_neg (by decide), m6, m3b, zg (by omega) (by omega), v1 (by omega) (by omega), zcln (by omega), i11]
  rw [b175_3, if_neg (by decide), m6, m3c, zg (by omega) (by omega), v2 (by omega) (by omega), zcln (by omega), i21]
  rw [b175_3, if_pos (by decide), m6, m6, zg (by omega) (by omega), zg (by omega) (by omega), zg (by omega) (by omega), zcln (by omega), zcln (by omega), zcln (by omega)]
  rw [zR156 hm, zR155 (by omega), zR147, zR152 hh hN (by omega), zR152 hh hN (by omega), show 3 * (6 * s + h) = 3 * (6 * s + h) + 0 from rfl, zR152 hh hN (by omega)]
  congr 3
  funext o k
  unfold zTl zNm
  simp only [zu_at, show Int32.toNatClampNeg 0 = 0 from rfl, show Int32.toNatClampNeg 1 = 1 from rfl, show Int32.toNatClampNeg 2 = 2 from rfl]
  by_cases ho : o = 145
  · subst ho
    by_cases k6 : k = 6
    · subst k6; simp
    by_cases k5 : k = 5
    · subst k5; simp
    by_cases k4 : k = 4
    · subst k4; simp
    by_cases k3 : k = 3
    · subst k3; simp
    by_cases k2 : k = 2
    · subst k2; simp
    by_cases k1 : k = 1
    · subst k1; simp
    by_cases k0 : k = 0
    · subst k0; simp
    · simp only [k6, k5, k4, k3, k2, k1, k0, and_false, if_false]
      rw [if_neg (by omega)]
  · simp only [ho, false_and, if_false]
theorem zVal_nm {nm nm2 : Nat → Int64} {q : Nat} (hlk : zLk p) (hq : q < 3) (h : ∀ i, i < 7 → nm i = nm2 i) : zVal p nm q = zVal p nm2 q := by
  obtain ⟨a, b, q1, q2, q3, q4, q5⟩ := hlk q hq
  unfold zVal
  rw [q3, q4, zcln (by omega), zcln (by omega)]
  have : ∀ (n k m2 : Nat) (f : Nat → Int64), a ≤ k → k + n ≤ b → zRun p nm n k m2 f = zRun p nm2 n k m2 f := by
    intro n
    induction n with
    | zero => intro k m2 f _ _; rfl
    | succ n ih =>
      intro k m2 f h1 h2
      unfold zRun
      simp only [fun m2 f => ih (k + 1) m2 f (by omega) (by omega)]
      by_cases e2 : p 31 k = 2
      · rw [if_pos e2, if_pos e2]
      · rw [if_neg e2, if_neg e2]
        by_cases e3 : p 31 k < 33
        · simp only [e3, not_true, if_false]
        · rw [if_pos e3, if_pos e3]
          have hn : ∃ j : Nat, j < 7 ∧ p 31 k = nI (33 + j) := by
            rcases q5 k (by omega) (by omega) with h | h | h | h
            · exact absurd h e2
            · exact absurd (Int32.lt_of_le_of_lt h.2 (by decide)) e3
            · exact absurd (Int32.lt_of_le_of_lt h.2 (by decide)) e3
            · exact h
          obtain ⟨j, hj, ej⟩ := hn
          have e33 : p 31 k - 33 = nI j := by rw [ej, show (33 : Int32) = nI 33 from rfl, pk_sub (by omega)]; congr 1; omega
          rw [e33, zcln (by omega), h j hj]
  exact this _ _ _ _ (by omega) (by omega)
theorem S_within {q : Nat} {most plain : Int32} {nm : Nat → Int64} (hlk : zLk p) (hR : zPR p ia N L T) (hq : q < 3) (hnm : ∀ i, i < 7 → la 145 i = nm i) (hb : ∀ i, i < 7 → zlb (nm i)) (hK : ∀ ia' la', zSc ia ia' → zL7 la la' → K (some (.int (if zVal p nm q = zER then plain else zlcl most.toInt64 (zVal p nm q)))) (ia', la', zRA pl dr cp cw rp)) : zWM (d + 8) 176 [.ref 127, .int (nI q), .int most, .int plain] (ia, la, zRA pl dr cp cw rp) K := by
  have hv := zVal_nm (nm := la 145) (nm2 := nm) hlk hq hnm
  rw [← hv] at hK
  obtain ⟨a, b, q1, q2, q3, q4, q5⟩ := hlk q hq
  obtain ⟨r1, r2, r3, r4⟩ := hR.2.2.2.2.2.2.2.2.2.2.2.2 q hq
  rw [q3, q4, zct_n (by omega), zct_n (by omega)] at r3 r4
  rw [e176, b176_0, e167, b167_0, zg (by omega) (by omega), zcln (by omega), r1, r2, q3, q4]
  unfold zVal at hK
  rw [q3, q4, zcln (by omega), zcln (by omega)] at hK
  by_cases hab : b ≤ a
  · rw [if_pos (nI_le1 hab (by omega)), kS, b176_5, if_pos rfl]
    have hK2 := hK ia la (zSc_r ia) (zL7_r la)
    rw [show b - a = 0 by omega] at hK2
    unfold zRun at hK2
    rw [if_pos rfl, if_pos rfl] at hK2
    exact hK2
  · rw [if_neg (nI_nle1 (by omega) (by omega)), kS, b176_5, if_neg (by decide), e166, b166_0, zg (by omega) (by omega), zcln (by omega), zu_o (by decide), r1, q3]
    rw [← zup_q (la := la) (c := 146) rfl]
    refine S_goes_l (ia := ia) (la := la) (p := p) (b := b) hq (by rw [r2, q4]) q2 (b - a) a 0 (la 146) (by omega) (by omega) r3 (r4 (by omega)) (fun i hi => by omega) (fun i hi => by rw [hnm i hi]; exact hb i hi) ?_ ?_
    · intro hE x g
      rw [kS, b176_13, if_neg (by decide)]
      have hK2 := hK (zu ia 127 34 x) (va_up la 146 g) ⟨x, rfl⟩ (fun c c5 c6 => zup_n c6)
      rw [zRun_ext _ _ _ _ _ (fun _ => 0) (la 146) (fun i hi => by omega), if_pos hE] at hK2
      exact hK2
    · intro hE x g hg
      rw [kS, b176_13, if_pos (by decide), zup_s, hg]
      have hK2 := hK (zu ia 127 34 x) (va_up la 146 g) ⟨x, rfl⟩ (fun c c5 c6 => zup_n c6)
      rw [zRun_ext _ _ _ _ _ (fun _ => 0) (la 146) (fun i hi => by omega), if_neg hE] at hK2
      exact hK2
end ZP
