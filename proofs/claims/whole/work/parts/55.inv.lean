/-! what holds between two calls -/
section ZE
variable {N L T D : Nat} {p q W ia ja : Nat → Nat → Int32}
theorem zLk_e (h : ∀ g, g < 33 → q g = p g) (hl : zLk p) : zLk q := by
  unfold zLk
  rw [h 29 (by omega), h 30 (by omega), h 31 (by omega)]
  exact hl
theorem zPk_e (h : ∀ g, g < 33 → q g = p g) (hk : zPk p N L T) : zPk q N L T := by
  obtain ⟨a1, a2, a3, a4, a5, a6, a7, a8, a9, a10, a11, a12, a13, a14⟩ := hk
  refine ⟨by rw [h 0 (by omega)]; exact a1, a2, by rw [h 0 (by omega)]; exact a3, a4, by rw [h 0 (by omega)]; exact a5, a6, fun k hk => ?_, fun k hk => ?_, zLk_e h a9, by rw [h 28 (by omega)]; exact a10, by rw [h 28 (by omega)]; exact a11, by rw [h 28 (by omega)]; exact a12, by rw [h 2 (by omega)]; exact a13, by rw [h 3 (by omega)]; exact a14⟩
  · rw [h (5 + k) (by omega)]; exact a7 k hk
  · rw [h (16 + k) (by omega)]; exact a8 k hk
theorem zchk_e (h : q 31 = p 31) : ∀ n k m : Nat, zchk q n k m = zchk p n k m := by
  intro n
  induction n with
  | zero => intro k m; rfl
  | succ n ih =>
    intro k m
    unfold zchk
    rw [h, ih, ih, ih]
theorem zPR_e (h : ∀ g, g < 33 → q g = p g) (hk : zPk p N L T) (hR : zPR p ia N L T) : zPR q ia N L T := by
  obtain ⟨a1, a2, a3, a4, a5, a6, a7, a8, a9, a10, a11, a12, a13⟩ := hR
  have hL : L ≤ 10 := hk.2.2.2.1
  have hT : T ≤ 12 := hk.2.2.2.2.2.1
  refine ⟨a1, a2, a3, by rw [h 28 (by omega)]; exact a4, by rw [h 28 (by omega)]; exact a5, by rw [h 28 (by omega)]; exact a6, by rw [h 0 (by omega)]; exact a7, by rw [h 1 (by omega)]; exact a8, by rw [h 2 (by omega)]; exact a9, by rw [h 3 (by omega)]; exact a10, fun k hk => ?_, fun k hk => ?_, ?_⟩
  · rw [h (5 + k) (by omega)]; exact a11 k hk
  · rw [h (16 + k) (by omega)]; exact a12 k hk
  · rw [h 29 (by omega), h 30 (by omega), h 31 (by omega), h 32 (by omega)]
    intro r hr
    rw [zchk_e (h 31 (by omega))]
    exact a13 r hr
theorem zPR_i (h : ∀ c, 129 ≤ c → c ≤ 144 → ja c = ia c) (hR : zPR p ia N L T) : zPR p ja N L T := by
  unfold zPR
  simp only [h 129 (by omega) (by omega), h 130 (by omega) (by omega), h 131 (by omega) (by omega), h 132 (by omega) (by omega), h 133 (by omega) (by omega), h 134 (by omega) (by omega), h 135 (by omega) (by omega), h 136 (by omega) (by omega), h 137 (by omega) (by omega), h 138 (by omega) (by omega), h 139 (by omega) (by omega), h 140 (by omega) (by omega), h 141 (by omega) (by omega), h 142 (by omega) (by omega), h 143 (by omega) (by omega), h 144 (by omega) (by omega)]
  exact hR
theorem zWf_e (h : ∀ g, g < 33 → q g = p g) (hW : zWf p N T D W) : zWf q N T D W := by
  obtain ⟨hA, ⟨l1, l2, l3⟩, c1, c2⟩ := hW
  refine ⟨hA, ⟨fun k hk => ?_, l2, l3⟩, fun k hk => ?_, c2⟩
  · rw [h (16 + k) (by omega)]; exact l1 k hk
  · rw [h (16 + k) (by omega)]; exact c1 k hk
/-- worlds that agree in their rows -/
def zWEq (W V : Nat → Nat → Int32) : Prop := V 0 0 = W 0 0 ∧ (∀ k, 11 ≤ k → k ≤ 14 → V 0 k = W 0 k) ∧ (∀ k, k < 6 → V 1 k = W 1 k ∧ V 3 k = W 3 k ∧ V 4 k = W 4 k ∧ V 5 k = W 5 k) ∧ (∀ k, k < 18 → V 2 k = W 2 k) ∧ (∀ k, k < 12 → V 6 k = W 6 k ∧ V 7 k = W 7 k ∧ V 8 k = W 8 k) ∧ (∀ k, k < 36 → V 9 k = W 9 k)
theorem zWEq_vis {V : Nat → Nat → Int32} (hN : N ≤ 6) (h : zWEq W V) : zVis N W V := ⟨h.1, h.2.1 14 (by omega) (by omega), h.2.2.1, fun i hi => h.2.2.2.1 i (by omega), h.2.2.2.2.1, h.2.2.2.2.2⟩
theorem zWf_q {V : Nat → Nat → Int32} (hN : N ≤ 6) (h : zWEq W V) (hW : zWf p N T D W) : zWf p N T D V := by
  obtain ⟨v0, vt, v1, v2, v6, v9⟩ := h
  obtain ⟨⟨a1, a2, a3, a4⟩, ⟨l1, l2, l3⟩, c1, c2⟩ := hW
  refine ⟨⟨by rw [v0]; exact a1, fun h hh => ?_, fun h h1 h2 => ?_, fun i hi => ?_⟩, ⟨fun k hk => ?_, ?_, ?_⟩, fun k hk => ?_, ?_⟩
  · rw [(v1 h (by omega)).2.1, (v1 h (by omega)).2.2.1]; exact a2 h hh
  · rw [(v1 h h2).1, (v1 h h2).2.1]; exact a3 h h1 h2
  · rw [v2 i (by omega)]; exact a4 i hi
  · rw [(v6 k hk).1, (v6 k hk).2.1]; exact l1 k hk
  · rw [vt 11 (by omega) (by omega), l2]
    congr 1
    apply zcnt_ext
    intro i hi
    rw [(v6 i hi).1]
  · rw [vt 12 (by omega) (by omega), l3]
    congr 1
    apply zcnt_ext
    intro i hi
    rw [(v6 i hi).2.1]
  · rw [(v6 k hk).1, (v6 k hk).2.2]; exact c1 k hk
  · rw [vt 13 (by omega) (by omega), c2]
    congr 1
    apply zcnt_ext
    intro i hi
    rw [(v6 i hi).2.2]
theorem zCpW_eq {V : Nat → Nat → Int32} : zWEq W (zCpW W V) := by
  unfold zCpW
  refine ⟨?_, fun k h1 h2 => ?_, fun k hk => ⟨?_, ?_, ?_, ?_⟩, fun k hk => ?_, fun k hk => ⟨?_, ?_, ?_⟩, fun k hk => ?_⟩
  · rw [zu_k (by decide), zu_k (by decide), zu_k (by decide), zu_k (by decide), zCst_n (by decide), zCst_n (by decide), zCst_n (by decide), zCst_n (by decide), zCst_n (by decide), zCst_n (by decide), zCst_n (by decide), zCst_n (by decide), zCst_n (by decide), zu_eq]
  · have : k = 11 ∨ k = 12 ∨ k = 13 ∨ k = 14 := by omega
    rcases this with e | e | e | e <;> subst e <;> simp [zu_at]
  · rw [zu_o (by decide), zu_o (by decide), zu_o (by decide), zu_o (by decide), zCst_n (by decide), zCst_n (by decide), zCst_n (by decide), zCst_n (by decide), zCst_n (by decide), zCst_n (by decide), zCst_n (by decide), zCst_n (by decide), zCst_s hk]
  · rw [zu_o (by decide), zu_o (by decide), zu_o (by decide), zu_o (by decide), zCst_n (by decide), zCst_n (by decide), zCst_n (by decide), zCst_n (by decide), zCst_n (by decide), zCst_n (by decide), zCst_s hk]
  · rw [zu_o (by decide), zu_o (by decide), zu_o (by decide), zu_o (by decide), zCst_n (by decide), zCst_n (by decide), zCst_n (by decide), zCst_n (by decide), zCst_n (by decide), zCst_s hk]
  · rw [zu_o (by decide), zu_o (by decide), zu_o (by decide), zu_o (by decide), zCst_n (by decide), zCst_n (by decide), zCst_n (by decide), zCst_n (by decide), zCst_s hk]
  · rw [zu_o (by decide), zu_o (by decide), zu_o (by decide), zu_o (by decide), zCst_n (by decide), zCst_n (by decide), zCst_n (by decide), zCst_n (by decide), zCst_n (by decide), zCst_n (by decide), zCst_n (by decide), zCst_s hk]
  · rw [zu_o (by decide), zu_o (by decide), zu_o (by decide), zu_o (by decide), zCst_n (by decide), zCst_n (by decide), zCst_n (by decide), zCst_s hk]
  · rw [zu_o (by decide), zu_o (by decide), zu_o (by decide), zu_o (by decide), zCst_n (by decide), zCst_n (by decide), zCst_s hk]
  · rw [zu_o (by decide), zu_o (by decide), zu_o (by decide), zu_o (by decide), zCst_n (by decide), zCst_s hk]
  · rw [zu_o (by decide), zu_o (by decide), zu_o (by decide), zu_o (by decide), zCst_s hk]
end ZE
def zTape (ia : Nat → Nat → Int32) : Prop := ∃ n, n ≤ 700 ∧ ia 2 1 = nI n ∧ ia 127 2 = nI n ∧ ∀ i, i < n → ∃ b, b < 256 ∧ ia 128 i = nI b ∧ ia 3 i = (nI b).toInt8.toInt32
/-- the words of the language, packed -/
def zLw : List Nat := [437714944, 407948448, 408572082, 777046016, 773459200, 642945024, 404455424, 609701888, 693712896, 211227648, 522190848, 48365568, 486146048, 650164864, 418890336, 777297172, 559500448, 556043424, 680957536, 136085504]
def zLang (ia : Nat → Nat → Int32) : Prop := ∀ k, k < 20 → ia 4 k = nI (zLw.getD k 0)
def zCh (h g k : Nat) : Prop := ((g = 3 ∨ g = 4 ∨ g = 5) ∧ k = h) ∨ (g = 2 ∧ 3 * h ≤ k ∧ k < 3 * h + 3) ∨ (g = 1 ∧ k < 6)
/-- the row j of the deeds brings V back to W -/
def zRow (N : Nat) (R : Nat → Int32) (j : Nat) (W V : Nat → Nat → Int32) : Prop := ∃ h, h < N ∧ R (13 * j) = nI h ∧ R (13 * j + 1) = W 3 h ∧ R (13 * j + 2) = W 4 h ∧ R (13 * j + 3) = W 5 h ∧ (∀ i, i < 3 → R (13 * j + 4 + i) = W 2 (3 * h + i)) ∧ (∀ i, i < 6 → R (13 * j + 7 + i) = W 1 i) ∧ (∀ g k, ¬ zCh h g k → V g k = W g k)
def zDeed (p : Nat → Nat → Int32) (N T D : Nat) (W : Nat → Nat → Int32) (r : Int32) (ia : Nat → Nat → Int32) : Prop :=
  ∃ (m nx : Nat) (Ws : Nat → Nat → Nat → Int32), m ≤ 20 ∧ nx < 20 ∧ ia 113 1 = nI nx ∧ ia 113 2 = nI m ∧ ia 127 48 = nI m ∧ Ws m = W ∧ ∀ i, i < m → zHas N (3 + i) (Ws i) r ia ∧ zWf p N T D (Ws i) ∧ zRow N (ia 114) ((nx + 20 - m + i) % 20) (Ws i) (Ws (i + 1))
def zNote (N : Nat) (ia : Nat → Nat → Int32) : Prop :=
  ∃ m, m ≤ 24 ∧ ia 106 0 = nI m ∧ ia 127 57 = nI m ∧ ia 106 2 = ia 127 58 ∧ (ia 127 58 = -1 ∨ ∃ j, j ≤ m ∧ ia 127 58 = nI j) ∧ ∀ k, k < m → ia 111 k = ia 166 k ∧ ((ia 166 k = -1 ∧ ia 109 k = ia 164 k ∧ ia 110 k = ia 165 k ∧ ∃ t q, 0 < t ∧ t ≤ 60 ∧ q < 3 * N ∧ ia 107 k = nI t ∧ ia 162 k = nI t ∧ ia 108 k = nI q ∧ ia 163 k = nI q) ∨ ∃ j, j < k ∧ ia 166 k = nI j)
def zImg (p : Nat → Nat → Int32) (N T : Nat) (ia : Nat → Nat → Int32) (la : Nat → Nat → Int64) : Prop :=
  ia 0 6 = ia 127 47 ∧ (ia 127 47 = 0 ∨ ∃ (D : Nat) (r : Int32) (W : Nat → Nat → Int32), D ≤ 9800 ∧ (∀ g, g < 10 → ia (82 + g) = W g) ∧ la 82 1 = r.toInt64 ∧ zHas N 2 W r ia ∧ zWf p N T D W)
/-- the plan and the world now -/
def zCore (pl : Nat) (p : Nat → Nat → Int32) (N L T D : Nat) (W : Nat → Nat → Int32) (r : Int32) (ia : Nat → Nat → Int32) (la : Nat → Nat → Int64) : Prop :=
  (∀ g, g < 33 → ia (pl + g) = p g) ∧ zPk p N L T ∧ zPR p ia N L T ∧ D ≤ 9800 ∧ (∀ g, g < 10 → ia (72 + g) = W g) ∧ zWf p N T D W ∧ zHas N 0 W r ia ∧ la 72 1 = r.toInt64 ∧ ia 127 49 = 0 ∧ ia 127 50 = -1 ∧ ia 127 51 = -1
def zInv (pl dr : Nat) (ia : Nat → Nat → Int32) (la : Nat → Nat → Int64) : Prop :=
  zIsP pl ∧ zIsP dr ∧ pl ≠ dr ∧ zTape ia ∧ zLang ia ∧ ia 1 3 = ia 127 28 ∧ ia 1 4 = ia 127 29 ∧
  ∃ p N L T D W r, zCore pl p N L T D W r ia la ∧ zImg p N T ia la ∧ zDeed p N T D W r ia ∧ zNote N ia
/-! what a call may change, by groups: 0 scratch, 1 text, 2 plan, 3 now, 4 image, 5 deeds, 6 notes, 7 the rest -/
def zsgr (s : Nat) : Nat := if s = 0 then 3 else if s = 1 then 0 else if s = 2 then 4 else 5
def zgr (c k : Nat) : Nat :=
  if c = 0 then (if k = 6 then 4 else 7) else
  if c ≤ 5 then 1 else
  if c ≤ 71 then 2 else
  if c ≤ 81 then 3 else
  if c ≤ 91 then 4 else
  if c ≤ 105 then 0 else
  if c = 106 then (if k = 1 then 0 else 6) else
  if c ≤ 111 then 6 else
  if c = 112 then 0 else
  if c ≤ 114 then 5 else
  if c ≤ 126 then 0 else
  if c = 127 then (if k = 2 ∨ k = 28 ∨ k = 29 then 1 else if k = 47 then 4 else if k = 48 then 5 else if 49 ≤ k ∧ k ≤ 51 then 2 else if k = 57 ∨ k = 58 then 6 else 0) else
  if c = 128 then 1 else
  if c ≤ 144 then 2 else
  if c ≤ 146 then 0 else
  if c ≤ 151 then zsgr k else
  if c = 152 then zsgr (k / 18) else
  if c ≤ 156 then zsgr (k / 6) else
  if c = 157 then zsgr (k / 12) else
  if c = 158 then zsgr (k / 36) else
  if c ≤ 161 then 0 else
  if c ≤ 166 then 6 else
  if c ≤ 169 then 0 else 7
theorem zgr_in {s c k : Nat} (h : zIn s c k) : zgr c k = zsgr s := by
  rcases h with h | h | h | h | h
  · obtain ⟨h1, h2, rfl⟩ := h
    unfold zgr
    rw [if_neg (by omega), if_neg (by omega), if_neg (by omega), if_neg (by omega), if_neg (by omega), if_neg (by omega), if_neg (by omega), if_neg (by omega), if_neg (by omega), if_neg (by omega), if_neg (by omega), if_neg (by omega), if_neg (by omega), if_neg (by omega), if_neg (by omega), if_pos h2]
  · obtain ⟨rfl, h1, h2⟩ := h
    show zsgr (k / 18) = _
    congr 1
    omega
  · obtain ⟨h1, h2, h3, h4⟩ := h
    unfold zgr
    rw [if_neg (by omega), if_neg (by omega), if_neg (by omega), if_neg (by omega), if_neg (by omega), if_neg (by omega), if_neg (by omega), if_neg (by omega), if_neg (by omega), if_neg (by omega), if_neg (by omega), if_neg (by omega), if_neg (by omega), if_neg (by omega), if_neg (by omega), if_neg (by omega), if_neg (by omega), if_pos h2]
    congr 1
    omega
  · obtain ⟨rfl, h1, h2⟩ := h
    show zsgr (k / 12) = _
    congr 1
    omega
  · obtain ⟨rfl, h1, h2⟩ := h
    show zsgr (k / 36) = _
    congr 1
    omega
theorem zgr_2 {c k : Nat} (h1 : 6 ≤ c) (h2 : c ≤ 71) : zgr c k = 2 := by
  unfold zgr
  rw [if_neg (by omega), if_neg (by omega), if_pos h2]
theorem zgr_2b {c k : Nat} (h1 : 129 ≤ c) (h2 : c ≤ 144) : zgr c k = 2 := by
  unfold zgr
  rw [if_neg (by omega), if_neg (by omega), if_neg (by omega), if_neg (by omega), if_neg (by omega), if_neg (by omega), if_neg (by omega), if_neg (by omega), if_neg (by omega), if_neg (by omega), if_neg (by omega), if_neg (by omega), if_neg (by omega), if_pos h2]
theorem zgr_3 {c k : Nat} (h1 : 72 ≤ c) (h2 : c ≤ 81) : zgr c k = 3 := by
  unfold zgr
  rw [if_neg (by omega), if_neg (by omega), if_neg (by omega), if_pos h2]
theorem zgr_4 {c k : Nat} (h1 : 82 ≤ c) (h2 : c ≤ 91) : zgr c k = 4 := by
  unfold zgr
  rw [if_neg (by omega), if_neg (by omega), if_neg (by omega), if_neg (by omega), if_pos h2]
theorem zgr_0 {c k : Nat} (h1 : 92 ≤ c) (h2 : c ≤ 105) : zgr c k = 0 := by
  unfold zgr
  rw [if_neg (by omega), if_neg (by omega), if_neg (by omega), if_neg (by omega), if_neg (by omega), if_pos h2]
theorem zgr_7 {c k : Nat} (h1 : 169 < c) : zgr c k = 7 := by
  unfold zgr
  rw [if_neg (by omega), if_neg (by omega), if_neg (by omega), if_neg (by omega), if_neg (by omega), if_neg (by omega), if_neg (by omega), if_neg (by omega), if_neg (by omega), if_neg (by omega), if_neg (by omega), if_neg (by omega), if_neg (by omega), if_neg (by omega), if_neg (by omega), if_neg (by omega), if_neg (by omega), if_neg (by omega), if_neg (by omega), if_neg (by omega), if_neg (by omega), if_neg (by omega), if_neg (by omega)]
def zFG (S : Nat → Prop) (ia ja : Nat → Nat → Int32) : Prop := ∀ c k, ¬ S (zgr c k) → ja c k = ia c k
def zTx (ia : Nat → Nat → Int32) : Prop := zTape ia ∧ zLang ia ∧ ia 1 3 = ia 127 28 ∧ ia 1 4 = ia 127 29
section ZG
variable {pl dr N L T D : Nat} {p W V ia ja ka : Nat → Nat → Int32} {la lb lc : Nat → Nat → Int64} {r : Int32} {S : Nat → Prop}
theorem zFG_r : zFG S ia ia := fun _ _ _ => rfl
theorem zFG_u {c k : Nat} {v : Int32} (hs : S (zgr c k)) (h : zFG S ia ja) : zFG S ia (zu ja c k v) := by
  intro a b q
  rw [zu_at]
  by_cases e : a = c ∧ b = k
  · rw [e.1, e.2] at q; exact absurd hs q
  · rw [if_neg e]; exact h a b q
theorem zFG_c {c : Nat} (h : zFG S ia ja) (hc : ∀ k, ¬ S (zgr c k)) : ja c = ia c := by
  funext k
  exact h c k (hc k)
theorem zFG_PM {M s : Nat} {V : Nat → Nat → Int32} {q : Int32} (hs : S (zsgr s)) (h : zFG S ia ja) : zFG S ia (zPM M s V q ja) := by
  intro c k z
  rw [zPM_out (fun e => z (by rw [zgr_in e]; exact hs)), h c k z]
theorem zFG_PW {w : Nat} {V : Nat → Nat → Int32} (hs : ∀ c k, w ≤ c → c < w + 10 → S (zgr c k)) (h : zFG S ia ja) : zFG S ia (zPW w V ja) := by
  intro c k z
  rw [zPW_o, h c k z]
  by_cases e : w ≤ c ∧ c < w + 10
  · exact absurd (hs c k e.1 e.2) z
  · omega
theorem zFG_t {S2 : Nat → Prop} (h : zFG S ia ja) (h2 : zFG S2 ja ka) (hS : ∀ g, S2 g → S g) : zFG S ia ka := fun c k q => by rw [h2 c k (fun z => q (hS _ z)), h c k q]
theorem zHas_g {s : Nat} (hs : ¬ S (zsgr s)) (h : zFG S ia ja) (hh : zHas N s W r ia) : zHas N s W r ja := zHas_in (fun c k hc => h c k (by rw [zgr_in hc]; exact hs)) hh
theorem zTx_e (h : zFG S ia ja) (h1 : ¬ S 1) (hT : zTx ia) : zTx ja := by
  have c1 : ja 1 = ia 1 := zFG_c h (fun _ => h1)
  have c2 : ja 2 = ia 2 := zFG_c h (fun _ => h1)
  have c3 : ja 3 = ia 3 := zFG_c h (fun _ => h1)
  have c4 : ja 4 = ia 4 := zFG_c h (fun _ => h1)
  have c8 : ja 128 = ia 128 := zFG_c h (fun _ => h1)
  have k2 : ja 127 2 = ia 127 2 := h 127 2 h1
  have k28 : ja 127 28 = ia 127 28 := h 127 28 h1
  have k29 : ja 127 29 = ia 127 29 := h 127 29 h1
  unfold zTx zTape zLang
  rw [c1, c2, c3, c4, c8, k2, k28, k29]
  exact hT
theorem zCore_p (hpl : zIsP pl) (h : zFG S ia ja) (h2 : ¬ S 2) (hC : zCore pl p N L T D W r ia la) {D2 : Nat} {V : Nat → Nat → Int32} {q : Int32} (e1 : D2 ≤ 9800) (e2 : ∀ g, g < 10 → ja (72 + g) = V g) (e3 : zWf p N T D2 V) (e4 : zHas N 0 V q ja) (e5 : lb 72 1 = q.toInt64) : zCore pl p N L T D2 V q ja lb := by
  obtain ⟨c1, c2, c3, c4, c5, c6, c7, c8, c9, c10, c11⟩ := hC
  have := zIsP_lt hpl
  refine ⟨fun g hg => ?_, c2, zPR_i (fun c h1 h3 => zFG_c h (fun k => by rw [zgr_2b h1 h3]; exact h2)) c3, e1, e2, e3, e4, e5, ?_, ?_, ?_⟩
  · rw [zFG_c h (fun k => by rw [zgr_2 (by omega) (by omega)]; exact h2)]; exact c1 g hg
  · rw [h 127 49 h2]; exact c9
  · rw [h 127 50 h2]; exact c10
  · rw [h 127 51 h2]; exact c11
theorem zCore_e (hpl : zIsP pl) (h : zFG S ia ja) (h2 : ¬ S 2) (h3 : ¬ S 3) (hl : lb 72 = la 72) (hC : zCore pl p N L T D W r ia la) : zCore pl p N L T D W r ja lb :=
  zCore_p hpl h h2 hC hC.2.2.2.1 (fun g hg => by rw [zFG_c h (fun k => by rw [zgr_3 (by omega) (by omega)]; exact h3)]; exact hC.2.2.2.2.1 g hg) hC.2.2.2.2.2.1 (zHas_g h3 h hC.2.2.2.2.2.2.1) (by rw [hl]; exact hC.2.2.2.2.2.2.2.1)
theorem zImg_e (h : zFG S ia ja) (h4 : ¬ S 4) (hl : lb 82 = la 82) (hM : zImg p N T ia la) : zImg p N T ja lb := by
  obtain ⟨m1, m2⟩ := hM
  refine ⟨?_, ?_⟩
  · rw [h 0 6 h4, h 127 47 h4]; exact m1
  · rw [h 127 47 h4]
    rcases m2 with m2 | ⟨D, r, V, q1, q2, q3, q4, q5⟩
    · exact Or.inl m2
    · refine Or.inr ⟨D, r, V, q1, fun g hg => ?_, by rw [hl]; exact q3, zHas_g h4 h q4, q5⟩
      rw [zFG_c h (fun k => by rw [zgr_4 (by omega) (by omega)]; exact h4)]; exact q2 g hg
theorem zsgr_5 {s : Nat} : zsgr (3 + s) = 5 := by
  unfold zsgr
  rw [if_neg (by omega), if_neg (by omega), if_neg (by omega)]
theorem zDeed_e (h : zFG S ia ja) (h5 : ¬ S 5) (hD : zDeed p N T D W r ia) : zDeed p N T D W r ja := by
  obtain ⟨m, nx, Ws, q1, q2, q3, q4, q5, q6, q7⟩ := hD
  refine ⟨m, nx, Ws, q1, q2, ?_, ?_, ?_, q6, fun i hi => ?_⟩
  · rw [h 113 1 h5]; exact q3
  · rw [h 113 2 h5]; exact q4
  · rw [h 127 48 h5]; exact q5
  · rw [zFG_c (c := 114) h (fun _ => h5)]
    exact ⟨zHas_g (by rw [zsgr_5]; exact h5) h (q7 i hi).1, (q7 i hi).2⟩
theorem zNote_e (h : zFG S ia ja) (h6 : ¬ S 6) (hN : zNote N ia) : zNote N ja := by
  obtain ⟨m, q1, q2, q3, q4, q5, q6⟩ := hN
  refine ⟨m, q1, ?_, ?_, ?_, ?_, ?_⟩
  · rw [h 106 0 h6]; exact q2
  · rw [h 127 57 h6]; exact q3
  · rw [h 106 2 h6, h 127 58 h6]; exact q4
  · rw [h 127 58 h6]; exact q5
  · rw [zFG_c (c := 111) h (fun _ => h6), zFG_c (c := 166) h (fun _ => h6), zFG_c (c := 109) h (fun _ => h6), zFG_c (c := 164) h (fun _ => h6), zFG_c (c := 110) h (fun _ => h6), zFG_c (c := 165) h (fun _ => h6), zFG_c (c := 107) h (fun _ => h6), zFG_c (c := 162) h (fun _ => h6), zFG_c (c := 108) h (fun _ => h6), zFG_c (c := 163) h (fun _ => h6)]
    exact q6
theorem zInv_mk (i1 : zIsP pl) (i2 : zIsP dr) (i3 : pl ≠ dr) (hT : zTx ia) (hC : zCore pl p N L T D W r ia la) (hM : zImg p N T ia la) (hD : zDeed p N T D W r ia) (hN : zNote N ia) : zInv pl dr ia la := ⟨i1, i2, i3, hT.1, hT.2.1, hT.2.2.1, hT.2.2.2, p, N, L, T, D, W, r, hC, hM, hD, hN⟩
theorem zFG_9 (h : zFG S ia ja) (h7 : ¬ S 7) : ja 900 = ia 900 ∧ ja 901 = ia 901 := ⟨zFG_c h (fun k => by rw [zgr_7 (by omega)]; exact h7), zFG_c h (fun k => by rw [zgr_7 (by omega)]; exact h7)⟩
end ZG
/-- what no call keeps -/
def zScr (c k : Nat) : Prop := zgr c k = 0
def zFr (ia : Nat → Nat → Int32) (la : Nat → Nat → Int64) (ja : Nat → Nat → Int32) (lb : Nat → Nat → Int64) : Prop := zFG (fun g => g = 0) ia ja ∧ lb 72 = la 72 ∧ lb 82 = la 82
section ZF
variable {pl dr N L T D : Nat} {p W V ia ja ka : Nat → Nat → Int32} {la lb lc : Nat → Nat → Int64} {r : Int32}
theorem zFr_r : zFr ia la ia la := ⟨fun _ _ _ => rfl, rfl, rfl⟩
theorem zFr_t (h : zFr ia la ja lb) (h2 : zFr ja lb ka lc) : zFr ia la ka lc := ⟨fun c k q => by rw [h2.1 c k q, h.1 c k q], by rw [h2.2.1, h.2.1], by rw [h2.2.2, h.2.2]⟩
theorem zFr_u {c k : Nat} {v : Int32} (hs : zScr c k) (h : zFr ia la ja lb) : zFr ia la (zu ja c k v) lb := ⟨zFG_u hs h.1, h.2⟩
theorem zS0 : zScr 127 0 := rfl
theorem zFr_0 {v : Int32} (h : zFr ia la ja lb) : zFr ia la (zu ja 127 0 v) lb := zFr_u zS0 h
theorem zFr_c {c : Nat} (h : zFr ia la ja lb) (hc : ∀ k, ¬ zScr c k) : ja c = ia c := zFG_c h.1 hc
theorem zHas_fr {s : Nat} (hs : s ≠ 1) (h : zFr ia la ja lb) (hh : zHas N s W r ia) : zHas N s W r ja := zHas_g (S := fun g => g = 0) (by unfold zsgr; rw [if_neg hs]; split <;> (try split) <;> omega) h.1 hh
theorem zScr_9 {c : Nat} (h : 169 < c) (k : Nat) : ¬ zScr c k := by unfold zScr; rw [zgr_7 h]; decide
theorem zCore_fr (hpl : zIsP pl) (h : zFr ia la ja lb) (hC : zCore pl p N L T D W r ia la) : zCore pl p N L T D W r ja lb := zCore_e hpl h.1 (by decide) (by decide) h.2.1 hC
theorem zInv_fr (hI : zInv pl dr ia la) (h : zFr ia la ja lb) : zInv pl dr ja lb := by
  obtain ⟨i1, i2, i3, i4, i5, i6, i7, p, N, L, T, D, W, r, hC, hM, hD, hN⟩ := hI
  exact zInv_mk i1 i2 i3 (zTx_e h.1 (by decide) ⟨i4, i5, i6, i7⟩) (zCore_fr i1 h hC) (zImg_e h.1 (by decide) h.2.2 hM) (zDeed_e h.1 (by decide) hD) (zNote_e h.1 (by decide) hN)
theorem zFr_PM {M : Nat} {V : Nat → Nat → Int32} {q : Int32} (h : zFr ia la ja lb) : zFr ia la (zPM M 1 V q ja) lb := ⟨zFG_PM rfl h.1, h.2⟩
theorem zFr_PW {V : Nat → Nat → Int32} (h : zFr ia la ja lb) : zFr ia la (zPW 92 V ja) lb := ⟨zFG_PW (fun c k h1 h2 => zgr_0 h1 (by omega)) h.1, h.2⟩
theorem zFr_sc (h : zFr ia la ja lb) (h2 : zSc ja ka) : zFr ia la ka lb := by
  obtain ⟨x, rfl⟩ := h2
  exact zFr_u rfl h
theorem zFr_7 (h : zFr ia la ja lb) (h2 : zL7 lb lc) : zFr ia la ja lc := ⟨h.1, by rw [h2 72 (by decide) (by decide)]; exact h.2.1, by rw [h2 82 (by decide) (by decide)]; exact h.2.2⟩
theorem zFr_5 (h : zFr ia la ja lb) (h2 : zL5 lb lc) : zFr ia la ja lc := ⟨h.1, by rw [h2 72 (by decide) (by decide)]; exact h.2.1, by rw [h2 82 (by decide) (by decide)]; exact h.2.2⟩
theorem zFr_l (h : zFr ia la ja lb) (h2 : ∀ c, c ≠ 104 → c ≠ 105 → c ≠ 92 → lc c = lb c) : zFr ia la ja lc := ⟨h.1, by rw [h2 72 (by decide) (by decide) (by decide)]; exact h.2.1, by rw [h2 82 (by decide) (by decide) (by decide)]; exact h.2.2⟩
end ZF
