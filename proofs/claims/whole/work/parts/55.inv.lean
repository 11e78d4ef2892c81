/-! what holds between two calls -/
section ZE
variable {N L T D : Nat} {p q W ia ja : Nat → Nat → Int32}
theorem zLk_e (h : ∀ g, g < 33 → q g = p g) (hl : zLk p) : zLk q := by
  unfold zLk
  rw [h 29 (by omega), h 30 (by omega), h 31 (by omega)]
  exact hl
theorem zPk_e (h : ∀ g, g < 33 → q g = p g) (hk : zPk p N L T) : zPk q N L T := by
  obtain ⟨a1, a2, a3, a4, a5, a6, a7, a8, a9, a10, a11, a12, a13, a14⟩ := hk
  refine ⟨by rw [h 0 (by omega)]; exact a1, a2, by rw [h 0 (by omega)]; exact a3, a4, by rw [h 0 (by omega)]; exact a5, a6, fun k hk => ?_, fun k hk => ?_, zLk_e h a9, by rw [h 28 (by omega)]; exact a10, by rw [h 28 (by omega)]; exact a11, by rw [h 28 (by omega)]; exact a12, by rw [h 2 (by omega)]; exact a13, by rw [h 3 (by omega)]; exact a14⟩
  · rw [h (5 + k) (by omega)]; exact a7 k hk
  · rw [h (16 + k) (by omega)]; exact a8 k hk
theorem zchk_e (h : q 31 = p 31) : ∀ n k m : Nat, zchk q n k m = zchk p n k m := by
  intro n
  induction n with
  | zero => intro k m; rfl
  | succ n ih =>
    intro k m
    unfold zchk
    rw [h, ih, ih, ih]
theorem zPR_e (h : ∀ g, g < 33 → q g = p g) (hk : zPk p N L T) (hR : zPR p ia N L T) : zPR q ia N L T := by
  obtain ⟨a1, a2, a3, a4, a5, a6, a7, a8, a9, a10, a11, a12, a13⟩ := hR
  have hL : L ≤ 10 := hk.2.2.2.1
  have hT : T ≤ 12 := hk.2.2.2.2.2.1
  refine ⟨a1, a2, a3, by rw [h 28 (by omega)]; exact a4, by rw [h 28 (by omega)]; exact a5, by rw [h 28 (by omega)]; exact a6, by rw [h 0 (by omega)]; exact a7, by rw [h 1 (by omega)]; exact a8, by rw [h 2 (by omega)]; exact a9, by rw [h 3 (by omega)]; exact a10, fun k hk => ?_, fun k hk => ?_, ?_⟩
  · rw [h (5 + k) (by omega)]; exact a11 k hk
  · rw [h (16 + k) (by omega)]; exact a12 k hk
  · rw [h 29 (by omega), h 30 (by omega), h 31 (by omega), h 32 (by omega)]
    intro r hr
    rw [zchk_e (h 31 (by omega))]
    exact a13 r hr
theorem zPR_i (h : ∀ c, 129 ≤ c → c ≤ 144 → ja c = ia c) (hR : zPR p ia N L T) : zPR p ja N L T := by
  unfold zPR
  simp only [h 129 (by omega) (by omega), h 130 (by omega) (by omega), h 131 (by omega) (by omega), h 132 (by omega) (by omega), h 133 (by omega) (by omega), h 134 (by omega) (by omega), h 135 (by omega) (by omega), h 136 (by omega) (by omega), h 137 (by omega) (by omega), h 138 (by omega) (by omega), h 139 (by omega) (by omega), h 140 (by omega) (by omega), h 141 (by omega) (by omega), h 142 (by omega) (by omega), h 143 (by omega) (by omega), h 144 (by omega) (by omega)]
  exact hR
theorem zWf_e (h : ∀ g, g < 33 → q g = p g) (hW : zWf p N T D W) : zWf q N T D W := by
  obtain ⟨hA, ⟨l1, l2, l3⟩, c1, c2⟩ := hW
  refine ⟨hA, ⟨fun k hk => ?_, l2, l3⟩, fun k hk => ?_, c2⟩
  · rw [h (16 + k) (by omega)]; exact l1 k hk
  · rw [h (16 + k) (by omega)]; exact c1 k hk
/-- worlds that agree in their rows -/
def zWEq (W V : Nat → Nat → Int32) : Prop := V 0 0 = W 0 0 ∧ (∀ k, 11 ≤ k → k ≤ 14 → V 0 k = W 0 k) ∧ (∀ k, k < 6 → V 1 k = W 1 k ∧ V 3 k = W 3 k ∧ V 4 k = W 4 k ∧ V 5 k = W 5 k) ∧ (∀ k, k < 18 → V 2 k = W 2 k) ∧ (∀ k, k < 12 → V 6 k = W 6 k ∧ V 7 k = W 7 k ∧ V 8 k = W 8 k) ∧ (∀ k, k < 36 → V 9 k = W 9 k)
theorem zWEq_vis {V : Nat → Nat → Int32} (hN : N ≤ 6) (h : zWEq W V) : zVis N W V := ⟨h.1, h.2.1 14 (by omega) (by omega), h.2.2.1, fun i hi => h.2.2.2.1 i (by omega), h.2.2.2.2.1, h.2.2.2.2.2⟩
theorem zWf_q {V : Nat → Nat → Int32} (hN : N ≤ 6) (h : zWEq W V) (hW : zWf p N T D W) : zWf p N T D V := by
  obtain ⟨v0, vt, v1, v2, v6, v9⟩ := h
  obtain ⟨⟨a1, a2, a3, a4⟩, ⟨l1, l2, l3⟩, c1, c2⟩ := hW
  refine ⟨⟨by rw [v0]; exact a1, fun h hh => ?_, fun h h1 h2 => ?_, fun i hi => ?_⟩, ⟨fun k hk => ?_, ?_, ?_⟩, fun k hk => ?_, ?_⟩
  · rw [(v1 h (by omega)).2.1, (v1 h (by omega)).2.2.1]; exact a2 h hh
  · rw [(v1 h h2).1, (v1 h h2).2.1]; exact a3 h h1 h2
  · rw [v2 i (by omega)]; exact a4 i hi
  · rw [(v6 k hk).1, (v6 k hk).2.1]; exact l1 k hk
  · rw [vt 11 (by omega) (by omega), l2]
    congr 1
    apply zcnt_ext
    intro i hi
    rw [(v6 i hi).1]
  · rw [vt 12 (by omega) (by omega), l3]
    congr 1
    apply zcnt_ext
    intro i hi
    rw [(v6 i hi).2.1]
  · rw [(v6 k hk).1, (v6 k hk).2.2]; exact c1 k hk
  · rw [vt 13 (by omega) (by omega), c2]
    congr 1
    apply zcnt_ext
    intro i hi
    rw [(v6 i hi).2.2]
theorem zCpW_eq {V : Nat → Nat → Int32} : zWEq W (zCpW W V) := by
  unfold zCpW
  refine ⟨?_, fun k h1 h2 => ?_, fun k hk => ⟨?_, ?_, ?_, ?_⟩, fun k hk => ?_, fun k hk => ⟨?_, ?_, ?_⟩, fun k hk => ?_⟩
  · rw [zu_k (by decide), zu_k (by decide), zu_k (by decide), zu_k (by decide), zCst_n (by decide), zCst_n (by decide), zCst_n (by decide), zCst_n (by decide), zCst_n (by decide), zCst_n (by decide), zCst_n (by decide), zCst_n (by decide), zCst_n (by decide), zu_eq]
  · have : k = 11 ∨ k = 12 ∨ k = 13 ∨ k = 14 := by omega
    rcases this with e | e | e | e <;> subst e <;> simp [zu_at]
  · rw [zu_o (by decide), zu_o (by decide), zu_o (by decide), zu_o (by decide), zCst_n (by decide), zCst_n (by decide), zCst_n (by decide), zCst_n (by decide), zCst_n (by decide), zCst_n (by decide), zCst_n (by decide), zCst_n (by decide), zCst_s hk]
  · rw [zu_o (by decide), zu_o (by decide), zu_o (by decide), zu_o (by decide), zCst_n (by decide), zCst_n (by decide), zCst_n (by decide), zCst_n (by decide), zCst_n (by decide), zCst_n (by decide), zCst_s hk]
  · rw [zu_o (by decide), zu_o (by decide), zu_o (by decide), zu_o (by decide), zCst_n (by decide), zCst_n (by decide), zCst_n (by decide), zCst_n (by decide), zCst_n (by decide), zCst_s hk]
  · rw [zu_o (by decide), zu_o (by decide), zu_o (by decide), zu_o (by decide), zCst_n (by decide), zCst_n (by decide), zCst_n (by decide), zCst_n (by decide), zCst_s hk]
  · rw [zu_o (by decide), zu_o (by decide), zu_o (by decide), zu_o (by decide), zCst_n (by decide), zCst_n (by decide), zCst_n (by decide), zCst_n (by decide), zCst_n (by decide), zCst_n (by decide), zCst_n (by decide), zCst_s hk]
  · rw [zu_o (by decide), zu_o (by decide), zu_o (by decide), zu_o (by decide), zCst_n (by decide), zCst_n (by decide), zCst_n (by decide), zCst_s hk]
  · rw [zu_o (by decide), zu_o (by decide), zu_o (by decide), zu_o (by decide), zCst_n (by decide), zCst_n (by decide), zCst_s hk]
  · rw [zu_o (by decide), zu_o (by decide), zu_o (by decide), zu_o (by decide), zCst_n (by decide), zCst_s hk]
  · rw [zu_o (by decide), zu_o (by decide), zu_o (by decide), zu_o (by decide), zCst_s hk]
end ZE
def zTape (ia : Nat → Nat → Int32) : Prop := ∃ n, n ≤ 700 ∧ ia 2 1 = nI n ∧ ia 127 2 = nI n ∧ ∀ i, i < n → ∃ b, b < 256 ∧ ia 128 i = nI b ∧ ia 3 i = (nI b).toInt8.toInt32
/-- the words of the language, packed -/
def zLw : List Nat := [437714944, 407948448, 408572082, 777046016, 773459200, 642945024, 404455424, 609701888, 693712896, 211227648, 522190848, 48365568, 486146048, 650164864, 418890336, 777297172, 559500448, 556043424, 680957536, 136085504]
def zLang (ia : Nat → Nat → Int32) : Prop := ∀ k, k < 20 → ia 4 k = nI (zLw.getD k 0)
def zCh (h g k : Nat) : Prop := ((g = 3 ∨ g = 4 ∨ g = 5) ∧ k = h) ∨ (g = 2 ∧ 3 * h ≤ k ∧ k < 3 * h + 3) ∨ (g = 1 ∧ k < 6)
/-- the row j of the deeds brings V back to W -/
def zRow (N : Nat) (R : Nat → Int32) (j : Nat) (W V : Nat → Nat → Int32) : Prop := ∃ h, h < N ∧ R (13 * j) = nI h ∧ R (13 * j + 1) = W 3 h ∧ R (13 * j + 2) = W 4 h ∧ R (13 * j + 3) = W 5 h ∧ (∀ i, i < 3 → R (13 * j + 4 + i) = W 2 (3 * h + i)) ∧ (∀ i, i < 6 → R (13 * j + 7 + i) = W 1 i) ∧ (∀ g k, ¬ zCh h g k → V g k = W g k)
def zDeed (p : Nat → Nat → Int32) (N T D : Nat) (W : Nat → Nat → Int32) (r : Int32) (ia : Nat → Nat → Int32) : Prop :=
  ∃ (m nx : Nat) (Ws : Nat → Nat → Nat → Int32), m ≤ 20 ∧ nx < 20 ∧ ia 113 1 = nI nx ∧ ia 113 2 = nI m ∧ ia 127 48 = nI m ∧ Ws m = W ∧ ∀ i, i < m → zHas N (3 + i) (Ws i) r ia ∧ zWf p N T D (Ws i) ∧ zRow N (ia 114) ((nx + 20 - m + i) % 20) (Ws i) (Ws (i + 1))
def zNote (N : Nat) (ia : Nat → Nat → Int32) : Prop :=
  ∃ m, m ≤ 24 ∧ ia 106 0 = nI m ∧ ia 127 57 = nI m ∧ ia 106 2 = ia 127 58 ∧ (ia 127 58 = -1 ∨ ∃ j, j ≤ m ∧ ia 127 58 = nI j) ∧ ∀ k, k < m → ia 111 k = ia 166 k ∧ ((ia 166 k = -1 ∧ ia 109 k = ia 164 k ∧ ia 110 k = ia 165 k ∧ ∃ t q, 0 < t ∧ t ≤ 60 ∧ q < 3 * N ∧ ia 107 k = nI t ∧ ia 162 k = nI t ∧ ia 108 k = nI q ∧ ia 163 k = nI q) ∨ ∃ j, j < k ∧ ia 166 k = nI j)
def zImg (p : Nat → Nat → Int32) (N T : Nat) (ia : Nat → Nat → Int32) (la : Nat → Nat → Int64) : Prop :=
  ia 0 6 = ia 127 47 ∧ (ia 127 47 = 0 ∨ ∃ (D : Nat) (r : Int32) (W : Nat → Nat → Int32), D ≤ 9800 ∧ (∀ g, g < 10 → ia (82 + g) = W g) ∧ la 82 1 = r.toInt64 ∧ zHas N 2 W r ia ∧ zWf p N T D W)
/-- the plan and the world now -/
def zCore (pl : Nat) (p : Nat → Nat → Int32) (N L T D : Nat) (W : Nat → Nat → Int32) (r : Int32) (ia : Nat → Nat → Int32) (la : Nat → Nat → Int64) : Prop :=
  (∀ g, g < 33 → ia (pl + g) = p g) ∧ zPk p N L T ∧ zPR p ia N L T ∧ D ≤ 9800 ∧ (∀ g, g < 10 → ia (72 + g) = W g) ∧ zWf p N T D W ∧ zHas N 0 W r ia ∧ la 72 1 = r.toInt64 ∧ ia 127 49 = 0 ∧ ia 127 50 = -1 ∧ ia 127 51 = -1
def zInv (pl dr : Nat) (ia : Nat → Nat → Int32) (la : Nat → Nat → Int64) : Prop :=
  zIsP pl ∧ zIsP dr ∧ pl ≠ dr ∧ zTape ia ∧ zLang ia ∧ ia 1 3 = ia 127 28 ∧ ia 1 4 = ia 127 29 ∧
  ∃ p N L T D W r, zCore pl p N L T D W r ia la ∧ zImg p N T ia la ∧ zDeed p N T D W r ia ∧ zNote N ia
/-- what no call keeps -/
def zScr (c k : Nat) : Prop := (92 ≤ c ∧ c ≤ 105) ∨ (c = 106 ∧ k = 1) ∨ c = 112 ∨ (115 ≤ c ∧ c ≤ 126) ∨ (c = 127 ∧ (k = 0 ∨ k = 34 ∨ k = 54 ∨ k = 55)) ∨ (145 ≤ c ∧ c ≤ 146) ∨ zIn 1 c k ∨ (159 ≤ c ∧ c ≤ 161) ∨ (167 ≤ c ∧ c ≤ 169)
def zFr (ia : Nat → Nat → Int32) (la : Nat → Nat → Int64) (ja : Nat → Nat → Int32) (lb : Nat → Nat → Int64) : Prop := (∀ c k, ¬ zScr c k → ja c k = ia c k) ∧ lb 72 = la 72 ∧ lb 82 = la 82
section ZF
variable {pl dr N L T D : Nat} {p W V ia ja ka : Nat → Nat → Int32} {la lb lc : Nat → Nat → Int64} {r : Int32}
theorem zFr_r : zFr ia la ia la := ⟨fun _ _ _ => rfl, rfl, rfl⟩
theorem zFr_t (h : zFr ia la ja lb) (h2 : zFr ja lb ka lc) : zFr ia la ka lc := ⟨fun c k q => by rw [h2.1 c k q, h.1 c k q], by rw [h2.2.1, h.2.1], by rw [h2.2.2, h.2.2]⟩
theorem zFr_u {c k : Nat} {v : Int32} (hs : zScr c k) (h : zFr ia la ja lb) : zFr ia la (zu ja c k v) lb := by
  refine ⟨fun a b q => ?_, h.2.1, h.2.2⟩
  rw [zu_at]
  by_cases e : a = c ∧ b = k
  · rw [e.1, e.2] at q; exact absurd hs q
  · rw [if_neg e]; exact h.1 a b q
theorem zS0 : zScr 127 0 := Or.inr (Or.inr (Or.inr (Or.inr (Or.inl ⟨rfl, Or.inl rfl⟩))))
theorem zFr_0 {v : Int32} (h : zFr ia la ja lb) : zFr ia la (zu ja 127 0 v) lb := zFr_u zS0 h
theorem zFr_c {c : Nat} (h : zFr ia la ja lb) (hc : ∀ k, ¬ zScr c k) : ja c = ia c := by
  funext k
  exact h.1 c k (hc k)
theorem zScr_n {c : Nat} (h : c < 92 ∨ c = 113 ∨ c = 114 ∨ (107 ≤ c ∧ c ≤ 111) ∨ (128 ≤ c ∧ c ≤ 144) ∨ (162 ≤ c ∧ c ≤ 166) ∨ 169 < c) (k : Nat) : ¬ zScr c k := by
  intro q
  rcases q with q | q | q | q | q | q | q | q | q
  · omega
  · omega
  · omega
  · omega
  · omega
  · omega
  · rcases q with q | q | q | q | q <;> omega
  · omega
  · omega
theorem zScr_7 {k : Nat} (h : k ≠ 0 ∧ k ≠ 34 ∧ k ≠ 54 ∧ k ≠ 55) : ¬ zScr 127 k := by
  intro q
  rcases q with q | q | q | q | q | q | q | q | q
  · omega
  · omega
  · omega
  · omega
  · omega
  · omega
  · rcases q with q | q | q | q | q <;> omega
  · omega
  · omega
theorem zScr_6 {k : Nat} (h : k ≠ 1) : ¬ zScr 106 k := by
  intro q
  rcases q with q | q | q | q | q | q | q | q | q
  · omega
  · omega
  · omega
  · omega
  · omega
  · omega
  · rcases q with q | q | q | q | q <;> omega
  · omega
  · omega
theorem zScr_s {s c k : Nat} (hs : s ≠ 1) (h : zIn s c k) : ¬ zScr c k := by
  intro q
  have hc : 147 ≤ c ∧ c ≤ 158 := by rcases h with h | h | h | h | h <;> omega
  rcases q with q | q | q | q | q | q | q | q | q
  · omega
  · omega
  · omega
  · omega
  · omega
  · omega
  · rcases h with h | h | h | h | h <;> rcases q with q | q | q | q | q <;> omega
  · omega
  · omega
theorem zHas_fr {s : Nat} (hs : s ≠ 1) (h : zFr ia la ja lb) (hh : zHas N s W r ia) : zHas N s W r ja := zHas_in (fun c k hc => h.1 c k (zScr_s hs hc)) hh
theorem zCore_fr (hpl : zIsP pl) (h : zFr ia la ja lb) (hC : zCore pl p N L T D W r ia la) : zCore pl p N L T D W r ja lb := by
  obtain ⟨c1, c2, c3, c4, c5, c6, c7, c8, c9, c10, c11⟩ := hC
  have := zIsP_lt hpl
  refine ⟨fun g hg => ?_, c2, zPR_i (fun c h1 h2 => zFr_c h (zScr_n (by omega))) c3, c4, fun g hg => ?_, c6, zHas_fr (by decide) h c7, by rw [h.2.1]; exact c8, ?_, ?_, ?_⟩
  · rw [zFr_c h (zScr_n (by omega))]; exact c1 g hg
  · rw [zFr_c h (zScr_n (by omega))]; exact c5 g hg
  · rw [h.1 _ _ (zScr_7 (by decide))]; exact c9
  · rw [h.1 _ _ (zScr_7 (by decide))]; exact c10
  · rw [h.1 _ _ (zScr_7 (by decide))]; exact c11
theorem zInv_fr (hI : zInv pl dr ia la) (h : zFr ia la ja lb) : zInv pl dr ja lb := by
  obtain ⟨i1, i2, i3, i4, i5, i6, i7, p, N, L, T, D, W, r, hC, hM, hD, hN⟩ := hI
  refine ⟨i1, i2, i3, ?_, ?_, ?_, ?_, p, N, L, T, D, W, r, zCore_fr i1 h hC, ?_, ?_, ?_⟩
  · obtain ⟨n, n1, n2, n3, n4⟩ := i4
    refine ⟨n, n1, ?_, ?_, ?_⟩
    · rw [zFr_c h (zScr_n (by decide))]; exact n2
    · rw [h.1 _ _ (zScr_7 (by decide))]; exact n3
    · rw [zFr_c h (zScr_n (by decide)), zFr_c h (zScr_n (by decide))]; exact n4
  · unfold zLang at i5 ⊢
    rw [zFr_c h (zScr_n (by decide))]; exact i5
  · rw [zFr_c h (zScr_n (by decide)), h.1 _ _ (zScr_7 (by decide))]; exact i6
  · rw [zFr_c h (zScr_n (by decide)), h.1 _ _ (zScr_7 (by decide))]; exact i7
  · obtain ⟨m1, m2⟩ := hM
    refine ⟨?_, ?_⟩
    · rw [zFr_c h (zScr_n (by decide)), h.1 _ _ (zScr_7 (by decide))]; exact m1
    · rw [h.1 _ _ (zScr_7 (by decide))]
      rcases m2 with m2 | ⟨D, r, V, q1, q2, q3, q4, q5⟩
      · exact Or.inl m2
      · refine Or.inr ⟨D, r, V, q1, fun g hg => ?_, by rw [h.2.2]; exact q3, zHas_fr (by decide) h q4, q5⟩
        rw [zFr_c h (zScr_n (by omega))]; exact q2 g hg
  · obtain ⟨m, nx, Ws, q1, q2, q3, q4, q5, q6, q7⟩ := hD
    refine ⟨m, nx, Ws, q1, q2, ?_, ?_, ?_, q6, fun i hi => ?_⟩
    · rw [zFr_c h (zScr_n (by decide))]; exact q3
    · rw [zFr_c h (zScr_n (by decide))]; exact q4
    · rw [h.1 _ _ (zScr_7 (by decide))]; exact q5
    · rw [zFr_c h (zScr_n (by decide))]
      exact ⟨zHas_fr (by omega) h (q7 i hi).1, (q7 i hi).2⟩
  · obtain ⟨m, q1, q2, q3, q4, q5, q6⟩ := hN
    refine ⟨m, q1, ?_, ?_, ?_, ?_, ?_⟩
    · rw [h.1 _ _ (zScr_6 (by decide))]; exact q2
    · rw [h.1 _ _ (zScr_7 (by decide))]; exact q3
    · rw [h.1 _ _ (zScr_6 (by decide)), h.1 _ _ (zScr_7 (by decide))]; exact q4
    · rw [h.1 _ _ (zScr_7 (by decide))]; exact q5
    · rw [zFr_c (c := 111) h (zScr_n (by decide)), zFr_c (c := 166) h (zScr_n (by decide)), zFr_c (c := 109) h (zScr_n (by decide)), zFr_c (c := 164) h (zScr_n (by decide)), zFr_c (c := 110) h (zScr_n (by decide)), zFr_c (c := 165) h (zScr_n (by decide)), zFr_c (c := 107) h (zScr_n (by decide)), zFr_c (c := 162) h (zScr_n (by decide)), zFr_c (c := 108) h (zScr_n (by decide)), zFr_c (c := 163) h (zScr_n (by decide))]
      exact q6
theorem zFr_PM {M : Nat} {V : Nat → Nat → Int32} {q : Int32} (h : zFr ia la ja lb) : zFr ia la (zPM M 1 V q ja) lb := by
  refine ⟨fun c k z => ?_, h.2⟩
  rw [zPM_out (fun e => z (Or.inr (Or.inr (Or.inr (Or.inr (Or.inr (Or.inr (Or.inl e)))))))), h.1 c k z]
theorem zFr_PW {V : Nat → Nat → Int32} (h : zFr ia la ja lb) : zFr ia la (zPW 92 V ja) lb := by
  refine ⟨fun c k z => ?_, h.2⟩
  rw [zPW_o, h.1 c k z]
  by_cases e : 92 ≤ c ∧ c < 102
  · exact absurd (Or.inl (by omega)) z
  · omega
theorem zFr_sc (h : zFr ia la ja lb) (h2 : zSc ja ka) : zFr ia la ka lb := by
  obtain ⟨x, rfl⟩ := h2
  exact zFr_u (Or.inr (Or.inr (Or.inr (Or.inr (Or.inl ⟨rfl, Or.inr (Or.inl rfl)⟩))))) h
theorem zFr_7 (h : zFr ia la ja lb) (h2 : zL7 lb lc) : zFr ia la ja lc := ⟨h.1, by rw [h2 72 (by decide) (by decide)]; exact h.2.1, by rw [h2 82 (by decide) (by decide)]; exact h.2.2⟩
theorem zFr_5 (h : zFr ia la ja lb) (h2 : zL5 lb lc) : zFr ia la ja lc := ⟨h.1, by rw [h2 72 (by decide) (by decide)]; exact h.2.1, by rw [h2 82 (by decide) (by decide)]; exact h.2.2⟩
theorem zFr_l (h : zFr ia la ja lb) (h2 : ∀ c, c ≠ 104 → c ≠ 105 → c ≠ 92 → lc c = lb c) : zFr ia la ja lc := ⟨h.1, by rw [h2 72 (by decide) (by decide) (by decide)]; exact h.2.1, by rw [h2 82 (by decide) (by decide) (by decide)]; exact h.2.2⟩
end ZF
