/-! how hand ends, for the machine -/
theorem zHw_of {pl dr k : Nat} {cp cw rp : Option Nat} {ia : Nat → Nat → Int32} {la : Nat → Nat → Int64} {a1 a2 v : Int32} (hpl : zIsP pl) (h : yHn pl ia a1 a2 k v) : zHw (ia, la, zRA pl dr cp cw rp) a1 a2 k v := by
  refine ⟨if a1 < 0 ∨ ia pl 1 ≤ a1 then 0 else 1, fun K hK => by rw [S_isPerson hpl]; exact hK, ?_⟩
  rcases h with ⟨hk, h⟩ | ⟨h, hh, rfl, hn, h⟩
  · exact Or.inl ⟨if_pos h, hk⟩
  · rcases h with ⟨hk, h⟩ | ⟨hk, j, hj, rfl, h⟩
    · refine Or.inr (Or.inl ⟨if_neg hn, hk, ?_⟩)
      rcases h with h | h
      · exact Or.inl (Int32.lt_iff_toInt_lt.mp h)
      · exact Or.inr (Int32.lt_iff_toInt_lt.mp h)
    · refine Or.inr (Or.inr ⟨if_neg hn, hk, ?_⟩)
      rcases h with ⟨h3, rfl⟩ | ⟨h3, h6, rfl⟩ | ⟨rfl, rfl⟩
      · refine ⟨43, 3 * h + j, Or.inl ⟨rfl, ?_, ?_, ?_, rfl⟩⟩
        · have e : j = 0 ∨ j = 1 ∨ j = 2 := by omega
          rcases e with rfl | rfl | rfl <;> decide +kernel
        · rw [n3]; exact zvi (by omega) (by omega)
        · rw [n3, zcln (by omega)]
      · refine ⟨57 + 10 * ((j - 3 : Nat) : Int), h, Or.inr (Or.inl ⟨j - 3, by omega, rfl, ?_, zvi (by omega) (by omega), (zcln (by omega)).symm, ?_⟩)⟩
        · have e : j = 3 ∨ j = 4 ∨ j = 5 := by omega
          rcases e with rfl | rfl | rfl <;> decide +kernel
        · show ia (72 + j) h = ia (75 + (j - 3)) h
          rw [show 75 + (j - 3) = 72 + j by omega]
      · refine ⟨87, 0, Or.inr (Or.inr ⟨rfl, rfl, by decide +kernel, fun K hK => ?_⟩)⟩
        rw [show (1 : Nat) = 0 + 1 from rfl, S_hdC (W := fun g => ia (72 + g)) (Or.inl rfl) hh rfl]
        exact hK
