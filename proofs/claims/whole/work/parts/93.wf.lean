/-! what lines keep -/
def ylw (P : Nat → Nat → Nat) (l : List (Nat × Nat)) (r : Nat) : Prop := ∃ u m v, l = u ++ (m ++ v) ∧ u.length = P 29 r ∧ u.length + m.length = P 30 r ∧ (m ≠ [] → yck m 0)
def yWf (s : yS7) : Prop :=
  yW1 s.2.1 s.2.2.1 s.2.2.2.1 s.2.2.2.2.1 s.2.2.2.2.2.1 s.2.2.2.2.2.2 ∧ (∀ k, k < 3 * s.2.1 → s.2.2.2.2.2.1 2 k < 100) ∧ (∀ k, k < s.2.1 → s.2.2.2.2.2.1 3 k < 1000) ∧
  (∀ k, k < s.2.2.1 → s.2.2.2.2.2.1 (5 + k) 0 < s.2.1 ∧ s.2.2.2.2.2.1 (5 + k) 1 < s.2.1 ∧ s.2.2.2.2.2.1 (5 + k) 0 ≠ s.2.2.2.2.2.1 (5 + k) 1 ∧ s.2.2.2.2.2.1 (5 + k) 2 < 100 ∧ 0 < s.2.2.2.2.2.1 (5 + k) 3 ∧ s.2.2.2.2.2.1 (5 + k) 3 < 100 ∧ s.2.2.2.2.2.1 (5 + k) 4 < 100) ∧
  (∀ k, k < s.2.2.2.1 → s.2.2.2.2.2.1 (16 + k) 0 < s.2.1 ∧ s.2.2.2.2.2.1 (16 + k) 1 < s.2.1 ∧ s.2.2.2.2.2.1 (16 + k) 2 < 100) ∧
  (s.2.2.2.2.2.1 28 0 ≤ 100 ∧ s.2.2.2.2.2.1 28 1 ≤ 100 ∧ s.2.2.2.2.2.1 28 2 < 100000) ∧
  (∀ r, r < 3 → ylw s.2.2.2.2.2.1 s.2.2.2.2.2.2 r) ∧ (∀ k ∈ s.2.2.2.2.2.2, yokk k)
section YW
variable {b : Nat → Nat} {n c i lo hi N ow : Nat} {R : yLR} {P : Nat → Nat → Nat} {st : yS7} {e : Nat × Nat}
theorem yTh_i (h : yTh b n c i R = .ok st) : c = 0 ∧ R = .ok st := by
  by_cases q : c = 0
  · rw [yTh_0 q] at h; exact ⟨q, h⟩
  · rw [yTh_n q] at h; cases h
theorem ycN_i (h : ycN b n lo hi i = 0) : zkN b n i = 2 ∧ lo ≤ zTv b n i ∧ zTv b n i ≤ hi := by
  unfold ycN at h
  by_cases q : zkN b n i = 2
  · rw [if_pos q] at h
    by_cases q2 : zTv b n i < lo ∨ hi < zTv b n i
    · rw [if_pos q2] at h; cases h
    · omega
  · rw [if_neg q] at h; cases h
theorem ycW_i (h : ycW b n P N i = 0) : zkN b n i = 3 := by
  unfold ycW at h
  by_cases q : zkN b n i = 3
  · exact q
  · rw [if_neg q] at h; cases h
theorem ycO_i (hN : N ≤ 6) (h : ycO b n P N ow i = 0) : zkN b n i = 3 ∧ yfi P (zTv b n i) N 0 < N ∧ yfi P (zTv b n i) N 0 ≠ ow := by
  unfold ycO at h
  have hb := yfi_b (P := P) (v := zTv b n i) N 0 (by omega)
  by_cases q : zkN b n i = 3
  · rw [if_pos q] at h
    by_cases q2 : yfi P (zTv b n i) N 0 = 6
    · rw [if_pos q2] at h; cases h
    · rw [if_neg q2] at h
      by_cases q3 : yfi P (zTv b n i) N 0 = ow
      · rw [if_pos q3] at h; cases h
      · exact ⟨q, by omega, q3⟩
  · rw [if_neg q] at h; cases h
theorem yit_s (hb : ∀ j, j < n → b j < 256) (hi : i ≤ n) (k : Nat) (h : zkN b n (yit b n k i) ≠ 0) : yit b n k i < yit b n (k + 1) i := (yt_f hb (yit_n k hi hb)).2.2.1 h
theorem ylw_P {P P' : Nat → Nat → Nat} {l : List (Nat × Nat)} {r : Nat} (h1 : P' 29 r = P 29 r) (h2 : P' 30 r = P 30 r) (h : ylw P l r) : ylw P' l r := by
  obtain ⟨u, m, v, q1, q2, q3, q4⟩ := h
  exact ⟨u, m, v, q1, by rw [h1]; exact q2, by rw [h2]; exact q3, q4⟩
theorem yBd_W (hb : ∀ j, j < n → b j < 256) {s : yS7} (hs : s.1 ≤ n) (w : yWf s) (h : yBd b n s = .ok st) : yWf st ∧ s.1 ≤ st.1 ∧ st.1 ≤ n := by
  obtain ⟨i, N, L, T, t, P, l⟩ := s
  obtain ⟨⟨w1, w2, w3, w4, w5, w6⟩, w7, w8, w9, w10, w11, w12, w13⟩ := w
  dsimp only at w1 w2 w3 w4 w5 w6 w7 w8 w9 w10 w11 w12 w13 hs
  unfold yBd at h
  dsimp only at h
  have I : ∀ k, yit b n k i ≤ n := fun k => yit_n k hs hb
  have V : ∀ k, zTv b n (yit b n k i) < 2 ^ 30 := fun k => (yt_f hb (I k)).2.2.2.2.2.1
  by_cases k0 : zkN b n i = 20
  · rw [if_pos k0] at h
    unfold yBman at h
    obtain ⟨a0, h⟩ := yTh_i h
    obtain ⟨a1, h⟩ := yTh_i h
    obtain ⟨a2, h⟩ := yTh_i h
    obtain ⟨a3, h⟩ := yTh_i h
    obtain ⟨a4, h⟩ := yTh_i h
    obtain ⟨a5, h⟩ := yTh_i h
    cases h
    have n6 : ¬ N = 6 := fun z => by rw [if_pos z] at a0; cases a0
    have b0 : yit b n 0 i < yit b n 1 i := yit_s hb hs 0 (by show zkN b n i ≠ 0; omega)
    have b1 : yit b n 1 i < yit b n 2 i := yit_s hb hs 1 (by rw [ycW_i a1]; decide)
    have b2 : yit b n 2 i < yit b n 3 i := yit_s hb hs 2 (by rw [(ycN_i a2).1]; decide)
    have b3 : yit b n 3 i < yit b n 4 i := yit_s hb hs 3 (by rw [(ycN_i a3).1]; decide)
    have b4 : yit b n 4 i < yit b n 5 i := yit_s hb hs 4 (by rw [(ycN_i a4).1]; decide)
    have b5 : yit b n 5 i < yit b n 6 i := yit_s hb hs 5 (by rw [(ycN_i a5).1]; decide)
    have b0 : i < yit b n 1 i := b0
    refine ⟨⟨⟨by show N + 1 ≤ 6; omega, w2, w3, w4, w5, fun k hk => ?_⟩, fun k hk => ?_, fun k hk => ?_, fun k hk => ?_, fun k hk => ?_, ?_, fun r hr => ylw_P ?_ ?_ (w12 r hr), w13⟩, by show i ≤ yit b n 6 i; omega, I 6⟩
    · have hk : k < N + 1 := hk
      dsimp only
      rw [zu_o (by decide), zu_o (by decide), zu_o (by decide), zu_o (by decide), zu_at]
      by_cases q : k = N
      · rw [if_pos ⟨rfl, q⟩]; exact V 1
      · rw [if_neg (fun z => q z.2)]; exact w6 k (by omega)
    · have hk : k < 3 * (N + 1) := hk
      dsimp only
      rw [zu_o (by decide), zu_at, zu_at, zu_at, zu_o (by decide)]
      have v2 := (ycN_i a2).2.2
      have v3 := (ycN_i a3).2.2
      have v4 := (ycN_i a4).2.2
      by_cases q2 : k = 3 * N + 2
      · rw [if_pos ⟨rfl, q2⟩]; omega
      rw [if_neg (fun z => q2 z.2)]
      by_cases q1 : k = 3 * N + 1
      · rw [if_pos ⟨rfl, q1⟩]; omega
      rw [if_neg (fun z => q1 z.2)]
      by_cases q0 : k = 3 * N
      · rw [if_pos ⟨rfl, q0⟩]; omega
      rw [if_neg (fun z => q0 z.2)]; exact w7 k (by omega)
    · have hk : k < N + 1 := hk
      dsimp only
      have v5 := (ycN_i a5).2.2
      rw [zu_at]
      by_cases q : k = N
      · rw [if_pos ⟨rfl, q⟩]; omega
      · rw [if_neg (fun z => q z.2), zu_o (by decide), zu_o (by decide), zu_o (by decide), zu_o (by decide)]; exact w8 k (by omega)
    · dsimp only
      have hk : k < L := hk
      rw [zu_o (show 5 + k ≠ 3 by omega), zu_o (show 5 + k ≠ 2 by omega), zu_o (show 5 + k ≠ 2 by omega), zu_o (show 5 + k ≠ 2 by omega), zu_o (show 5 + k ≠ 1 by omega)]
      obtain ⟨x1, x2, x3⟩ := w9 k hk
      exact ⟨by omega, by omega, x3⟩
    · dsimp only
      have hk : k < T := hk
      rw [zu_o (show 16 + k ≠ 3 by omega), zu_o (show 16 + k ≠ 2 by omega), zu_o (show 16 + k ≠ 2 by omega), zu_o (show 16 + k ≠ 2 by omega), zu_o (show 16 + k ≠ 1 by omega)]
      obtain ⟨x1, x2, x3⟩ := w10 k hk
      exact ⟨by omega, by omega, x3⟩
    · dsimp only
      rw [zu_o (show (28 : Nat) ≠ 3 by decide), zu_o (show (28 : Nat) ≠ 2 by decide), zu_o (show (28 : Nat) ≠ 2 by decide), zu_o (show (28 : Nat) ≠ 2 by decide), zu_o (show (28 : Nat) ≠ 1 by decide)]
      exact w11
    · dsimp only; rw [zu_o (by decide), zu_o (by decide), zu_o (by decide), zu_o (by decide), zu_o (by decide)]
    · dsimp only; rw [zu_o (by decide), zu_o (by decide), zu_o (by decide), zu_o (by decide), zu_o (by decide)]
  rw [if_neg k0] at h
  by_cases k1 : zkN b n i = 21
  · rw [if_pos k1] at h
    unfold yBlea at h
    obtain ⟨a0, h⟩ := yTh_i h
    obtain ⟨a1, h⟩ := yTh_i h
    obtain ⟨a2, h⟩ := yTh_i h
    obtain ⟨a3, h⟩ := yTh_i h
    obtain ⟨a4, h⟩ := yTh_i h
    obtain ⟨a5, h⟩ := yTh_i h
    cases h
    have n6 : ¬ L = 10 := fun z => by rw [if_pos z] at a0; cases a0
    have c1 := ycO_i w1 a1
    have c2 := ycO_i w1 a2
    have b0 : yit b n 0 i < yit b n 1 i := yit_s hb hs 0 (by show zkN b n i ≠ 0; omega)
    have b1 : yit b n 1 i < yit b n 2 i := yit_s hb hs 1 (by rw [c1.1]; decide)
    have b2 : yit b n 2 i < yit b n 3 i := yit_s hb hs 2 (by rw [c2.1]; decide)
    have b3 : yit b n 3 i < yit b n 4 i := yit_s hb hs 3 (by rw [(ycN_i a3).1]; decide)
    have b4 : yit b n 4 i < yit b n 5 i := yit_s hb hs 4 (by rw [(ycN_i a4).1]; decide)
    have b5 : yit b n 5 i < yit b n 6 i := yit_s hb hs 5 (by rw [(ycN_i a5).1]; decide)
    have b0 : i < yit b n 1 i := b0
    have ot : ∀ g, g ≠ 5 + L → zu (zu (zu (zu (zu P (5 + L) 0 (yfi P (zTv b n (yit b n 1 i)) N 0)) (5 + L) 1 (yfi P (zTv b n (yit b n 2 i)) N 0)) (5 + L) 2 (zTv b n (yit b n 3 i))) (5 + L) 3 (zTv b n (yit b n 4 i))) (5 + L) 4 (zTv b n (yit b n 5 i)) g = P g := fun g hg => by rw [zu_o hg, zu_o hg, zu_o hg, zu_o hg, zu_o hg]
    refine ⟨⟨⟨w1, by show L + 1 ≤ 10; omega, w3, w4, w5, fun k hk => ?_⟩, fun k hk => ?_, fun k hk => ?_, fun k hk => ?_, fun k hk => ?_, ?_, fun r hr => ylw_P ?_ ?_ (w12 r hr), w13⟩, by show i ≤ yit b n 6 i; omega, I 6⟩
    · dsimp only; rw [ot 1 (by omega)]; exact w6 k hk
    · dsimp only; rw [ot 2 (by omega)]; exact w7 k hk
    · dsimp only; rw [ot 3 (by omega)]; exact w8 k hk
    · have hk : k < L + 1 := hk
      dsimp only
      by_cases q : k = L
      · subst q
        have v3 := (ycN_i a3).2.2
        have v4 := (ycN_i a4).2
        have v5 := (ycN_i a5).2.2
        have x0 : zu (zu (zu (zu (zu P (5 + k) 0 (yfi P (zTv b n (yit b n 1 i)) N 0)) (5 + k) 1 (yfi P (zTv b n (yit b n 2 i)) N 0)) (5 + k) 2 (zTv b n (yit b n 3 i))) (5 + k) 3 (zTv b n (yit b n 4 i))) (5 + k) 4 (zTv b n (yit b n 5 i)) (5 + k) 0 = yfi P (zTv b n (yit b n 1 i)) N 0 := by rw [zu_k (by decide), zu_k (by decide), zu_k (by decide), zu_k (by decide), zu_eq]
        have x1 : zu (zu (zu (zu (zu P (5 + k) 0 (yfi P (zTv b n (yit b n 1 i)) N 0)) (5 + k) 1 (yfi P (zTv b n (yit b n 2 i)) N 0)) (5 + k) 2 (zTv b n (yit b n 3 i))) (5 + k) 3 (zTv b n (yit b n 4 i))) (5 + k) 4 (zTv b n (yit b n 5 i)) (5 + k) 1 = yfi P (zTv b n (yit b n 2 i)) N 0 := by rw [zu_k (by decide), zu_k (by decide), zu_k (by decide), zu_eq]
        have x2 : zu (zu (zu (zu (zu P (5 + k) 0 (yfi P (zTv b n (yit b n 1 i)) N 0)) (5 + k) 1 (yfi P (zTv b n (yit b n 2 i)) N 0)) (5 + k) 2 (zTv b n (yit b n 3 i))) (5 + k) 3 (zTv b n (yit b n 4 i))) (5 + k) 4 (zTv b n (yit b n 5 i)) (5 + k) 2 = zTv b n (yit b n 3 i) := by rw [zu_k (by decide), zu_k (by decide), zu_eq]
        have x3 : zu (zu (zu (zu (zu P (5 + k) 0 (yfi P (zTv b n (yit b n 1 i)) N 0)) (5 + k) 1 (yfi P (zTv b n (yit b n 2 i)) N 0)) (5 + k) 2 (zTv b n (yit b n 3 i))) (5 + k) 3 (zTv b n (yit b n 4 i))) (5 + k) 4 (zTv b n (yit b n 5 i)) (5 + k) 3 = zTv b n (yit b n 4 i) := by rw [zu_k (by decide), zu_eq]
        have x4 : zu (zu (zu (zu (zu P (5 + k) 0 (yfi P (zTv b n (yit b n 1 i)) N 0)) (5 + k) 1 (yfi P (zTv b n (yit b n 2 i)) N 0)) (5 + k) 2 (zTv b n (yit b n 3 i))) (5 + k) 3 (zTv b n (yit b n 4 i))) (5 + k) 4 (zTv b n (yit b n 5 i)) (5 + k) 4 = zTv b n (yit b n 5 i) := zu_eq _ _ _ _
        rw [x0, x1, x2, x3, x4]
        exact ⟨c1.2.1, c2.2.1, Ne.symm c2.2.2, by omega, by omega, by omega, by omega⟩
      · rw [ot (5 + k) (by omega)]; exact w9 k (by omega)
    · dsimp only; rw [ot (16 + k) (by omega)]; exact w10 k hk
    · dsimp only; rw [ot 28 (by omega)]; exact w11
    · dsimp only; rw [ot 29 (by omega)]
    · dsimp only; rw [ot 30 (by omega)]
  rw [if_neg k1] at h
  by_cases k2 : zkN b n i = 22
  · rw [if_pos k2] at h
    unfold yBlet at h
    obtain ⟨a0, h⟩ := yTh_i h
    obtain ⟨a1, h⟩ := yTh_i h
    obtain ⟨a2, h⟩ := yTh_i h
    obtain ⟨a3, h⟩ := yTh_i h
    cases h
    have n6 : ¬ T = 12 := fun z => by rw [if_pos z] at a0; cases a0
    have c1 := ycO_i w1 a1
    have c2 := ycO_i w1 a2
    have b0 : yit b n 0 i < yit b n 1 i := yit_s hb hs 0 (by show zkN b n i ≠ 0; omega)
    have b1 : yit b n 1 i < yit b n 2 i := yit_s hb hs 1 (by rw [c1.1]; decide)
    have b2 : yit b n 2 i < yit b n 3 i := yit_s hb hs 2 (by rw [c2.1]; decide)
    have b3 : yit b n 3 i < yit b n 4 i := yit_s hb hs 3 (by rw [(ycN_i a3).1]; decide)
    have b0 : i < yit b n 1 i := b0
    have ot : ∀ g, g ≠ 16 + T → zu (zu (zu P (16 + T) 0 (yfi P (zTv b n (yit b n 1 i)) N 0)) (16 + T) 1 (yfi P (zTv b n (yit b n 2 i)) N 0)) (16 + T) 2 (zTv b n (yit b n 3 i)) g = P g := fun g hg => by rw [zu_o hg, zu_o hg, zu_o hg]
    refine ⟨⟨⟨w1, w2, by show T + 1 ≤ 12; omega, w4, w5, fun k hk => ?_⟩, fun k hk => ?_, fun k hk => ?_, fun k hk => ?_, fun k hk => ?_, ?_, fun r hr => ylw_P ?_ ?_ (w12 r hr), w13⟩, by show i ≤ yit b n 4 i; omega, I 4⟩
    · dsimp only; rw [ot 1 (by omega)]; exact w6 k hk
    · dsimp only; rw [ot 2 (by omega)]; exact w7 k hk
    · dsimp only; rw [ot 3 (by omega)]; exact w8 k hk
    · have hk : k < L := hk
      dsimp only; rw [ot (5 + k) (by omega)]; exact w9 k hk
    · have hk : k < T + 1 := hk
      dsimp only
      by_cases q : k = T
      · subst q
        have v3 := (ycN_i a3).2.2
        have x0 : zu (zu (zu P (16 + k) 0 (yfi P (zTv b n (yit b n 1 i)) N 0)) (16 + k) 1 (yfi P (zTv b n (yit b n 2 i)) N 0)) (16 + k) 2 (zTv b n (yit b n 3 i)) (16 + k) 0 = yfi P (zTv b n (yit b n 1 i)) N 0 := by rw [zu_k (by decide), zu_k (by decide), zu_eq]
        have x1 : zu (zu (zu P (16 + k) 0 (yfi P (zTv b n (yit b n 1 i)) N 0)) (16 + k) 1 (yfi P (zTv b n (yit b n 2 i)) N 0)) (16 + k) 2 (zTv b n (yit b n 3 i)) (16 + k) 1 = yfi P (zTv b n (yit b n 2 i)) N 0 := by rw [zu_k (by decide), zu_eq]
        have x2 : zu (zu (zu P (16 + k) 0 (yfi P (zTv b n (yit b n 1 i)) N 0)) (16 + k) 1 (yfi P (zTv b n (yit b n 2 i)) N 0)) (16 + k) 2 (zTv b n (yit b n 3 i)) (16 + k) 2 = zTv b n (yit b n 3 i) := zu_eq _ _ _ _
        rw [x0, x1, x2]
        exact ⟨c1.2.1, c2.2.1, by omega⟩
      · rw [ot (16 + k) (by omega)]; exact w10 k (by omega)
    · dsimp only; rw [ot 28 (by omega)]; exact w11
    · dsimp only; rw [ot 29 (by omega)]
    · dsimp only; rw [ot 30 (by omega)]
  rw [if_neg k2] at h
  by_cases k3 : 23 ≤ zkN b n i ∧ zkN b n i ≤ 25
  · rw [if_pos k3] at h
    unfold yBset at h
    obtain ⟨a0, h⟩ := yTh_i h
    obtain ⟨a1, h⟩ := yTh_i h
    cases h
    have b0 : yit b n 0 i < yit b n 1 i := yit_s hb hs 0 (by show zkN b n i ≠ 0; omega)
    have b1 : yit b n 1 i < yit b n 2 i := yit_s hb hs 1 (by rw [(ycN_i a1).1]; decide)
    have b0 : i < yit b n 1 i := b0
    have v1 := (ycN_i a1).2.2
    have ot : ∀ g, g ≠ 28 → zu P 28 (zkN b n i - 23) (zTv b n (yit b n 1 i)) g = P g := fun g hg => zu_o hg
    refine ⟨⟨⟨w1, w2, w3, yor_lt w4 (by omega), w5, fun k hk => ?_⟩, fun k hk => ?_, fun k hk => ?_, fun k hk => ?_, fun k hk => ?_, ?_, fun r hr => ylw_P ?_ ?_ (w12 r hr), w13⟩, by show i ≤ yit b n 2 i; omega, I 2⟩
    · dsimp only; rw [ot 1 (by omega)]; exact w6 k hk
    · dsimp only; rw [ot 2 (by omega)]; exact w7 k hk
    · dsimp only; rw [ot 3 (by omega)]; exact w8 k hk
    · have hk : k < L := hk
      dsimp only; rw [ot (5 + k) (by omega)]; exact w9 k hk
    · have hk : k < T := hk
      dsimp only; rw [ot (16 + k) (by omega)]; exact w10 k hk
    · dsimp only
      refine ⟨?_, ?_, ?_⟩
      · rw [zu_at]
        by_cases q : zkN b n i = 23
        · rw [if_pos ⟨rfl, by omega⟩]; rw [if_neg (by omega)] at v1; exact v1
        · rw [if_neg (by omega)]; exact w11.1
      · rw [zu_at]
        by_cases q : zkN b n i = 24
        · rw [if_pos ⟨rfl, by omega⟩]; rw [if_neg (by omega)] at v1; exact v1
        · rw [if_neg (by omega)]; exact w11.2.1
      · rw [zu_at]
        by_cases q : zkN b n i = 25
        · rw [if_pos ⟨rfl, by omega⟩]; rw [if_pos q] at v1; omega
        · rw [if_neg (by omega)]; exact w11.2.2
    · dsimp only; rw [ot 29 (by omega)]
    · dsimp only; rw [ot 30 (by omega)]
  rw [if_neg k3] at h
  by_cases k4 : zkN b n i = 26
  · rw [if_pos k4] at h
    unfold yBlaw at h
    obtain ⟨a0, h⟩ := yTh_i h
    have kr : 27 ≤ zkN b n (yit b n 1 i) ∧ zkN b n (yit b n 1 i) ≤ 29 := by
      by_cases q : 27 ≤ zkN b n (yit b n 1 i) ∧ zkN b n (yit b n 1 i) ≤ 29
      · exact q
      · rw [if_neg q] at a0; cases a0
    have b0 : yit b n 0 i < yit b n 1 i := yit_s hb hs 0 (by show zkN b n i ≠ 0; omega)
    have b1 : yit b n 1 i < yit b n 2 i := yit_s hb hs 1 (by omega)
    have b0 : i < yit b n 1 i := b0
    cases hx : yPx b n (yfuel n) 1 0 (yit b n 2 i) l.length l with
    | error e => rw [hx] at h; cases h
    | ok r =>
      rw [hx] at h
      cases h
      have A := (yPx_A hb (yfuel n) 1 0 (yit b n 2 i) l.length l yX_1 (I 2) (by show 10 * (n - yit b n 2 i) + 6 ≤ 10 * n + 10; omega) w5).2 r hx
      obtain ⟨m, m1, m2, m3⟩ := yPx_B hb (yfuel n) 1 0 (yit b n 2 i) l.length l r yX_1 (I 2) (by show 10 * (n - yit b n 2 i) + 6 ≤ 10 * n + 10; omega) w5 hx
      have A6 := A.2.2.2.2.2
      have ot : ∀ g, g ≠ 29 → g ≠ 30 → zu (zu P 29 (zkN b n (yit b n 1 i) - 27) l.length) 30 (zkN b n (yit b n 1 i) - 27) r.2.2.length g = P g := fun g h1 h2 => by rw [zu_o h2, zu_o h1]
      refine ⟨⟨⟨w1, w2, w3, yor_lt w4 (by omega), by have := A.2.2.2.2.1; show r.2.2.length ≤ 64; omega, fun k hk => ?_⟩, fun k hk => ?_, fun k hk => ?_, fun k hk => ?_, fun k hk => ?_, ?_, fun q hq => ?_, fun k hk => ?_⟩, by have := A.2.1; show i ≤ r.1; omega, A.1⟩
      · dsimp only; rw [ot 1 (by omega) (by omega)]; exact w6 k hk
      · dsimp only; rw [ot 2 (by omega) (by omega)]; exact w7 k hk
      · dsimp only; rw [ot 3 (by omega) (by omega)]; exact w8 k hk
      · have hk : k < L := hk
        dsimp only; rw [ot (5 + k) (by omega) (by omega)]; exact w9 k hk
      · have hk : k < T := hk
        dsimp only; rw [ot (16 + k) (by omega) (by omega)]; exact w10 k hk
      · dsimp only; rw [ot 28 (by omega) (by omega)]; exact w11
      · dsimp only
        by_cases q2 : q = zkN b n (yit b n 1 i) - 27
        · refine ⟨l, m, [], by rw [List.append_nil]; exact m1, ?_, ?_, fun _ => ?_⟩
          · rw [zu_o (by decide), q2, zu_eq]
          · rw [q2, zu_eq, m1, List.length_append]
          · have := (m3 [] 0).1 (by decide) rfl
            rw [List.append_nil] at this
            exact this
        · obtain ⟨u, z, v, p1, p2, p3, p4⟩ := w12 q hq
          refine ⟨u, z, v ++ m, by rw [m1, p1, List.append_assoc, List.append_assoc], ?_, ?_, p4⟩
          · rw [zu_o (by decide), zu_k q2]; exact p2
          · rw [zu_k q2, zu_o (by decide)]; exact p3
      · have hk : k ∈ r.2.2 := hk
        rw [m1] at hk
        rcases List.mem_append.mp hk with hk | hk
        · exact w13 k hk
        · exact m2 k hk
  rw [if_neg k4] at h
  cases h
end YW
