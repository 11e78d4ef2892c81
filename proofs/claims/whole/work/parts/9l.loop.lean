/-! THE CLAIM OUT OF ONE WALK OF THE LAW'S BODY. Your part is whole_start (and what it stands on); all else here is the same for every law, but numbers. -/
def lw_RL : String := "HandsLetLaw"
def lw_P (b : Addr) (xs : List Int32) (args : Array Value) (s : State) : Prop := args = #[.ref b] ∧ s.IntsAt b xs ∧ xs.length ≤ 384 ∧ (Jvm.Cond.and given_1 narrow_1).before args s = true
def lw_Q (_ : Array Value) (s : State) (o : Outcome) (t : State) : Prop := o = .returned (some (.int 1)) ∧ Framed s o t [] 600128 7301098
def lw_Z (below : List Frame) (a : Array Value) (s : State) : State → Prop := fun t => ∃ o, t.status = .running ∧ Ended t below o ∧ lw_Q a s o t
/-- the law's own end, with 1 on the stack, nothing written that was there before, its room as the claim has it -/
theorem lw_ret {p : Program} {l : Launch} {e : Env} {s : State} {m : MethodId} {below : List Frame} {meth : Method} {c : Code} {b : Nat} (hx : p.tables.exec = Jvm.exec) (hb : c.code = code) (hr : meth.sig.returnType = ret) (hlocks : meth.locks = false) {pc : Nat} {H : Heap} {ls : Array Slot} (hdg : decode code pc = .ok (.ireturn, 1)) : W p l e room_1 s m #[Value.ref b] below meth c H [] 600128 7301098 (lw_Z below #[Value.ref b] s) (F0 m pc ls [.int 1]) := by
  intro T hT X
  obtain ⟨fs, hret, hrun, hended, hW, hframe⟩ := X.leave (v := some (.int 1)) (hlocks := hlocks) (fun h => by rw [hr] at h; cases h)
  have hmeth' : T.vm.method? m = some meth := X.method'
  refine ⟨T.setFrames fs, ?_, .returned (some (.int 1)), hrun, hended, rfl, ⟨_, rfl⟩, hW, hframe⟩
  jvm_step X.here [X.here.top, hx, hb, hdg, hmeth', hr, ret, narrow_b1]
  (try refine ⟨rfl, ?_⟩); (try refine ⟨rfl, ?_⟩)
  first | (intro acts; rw [hret _ acts rfl rfl rfl]) | rw [hret _ _ rfl rfl rfl]
  exact Steps.refl _
/-- what holds at the law's entry: the machine, the code, the tables' words (any of lw_tbl by 'hts w (by decide +kernel)'), the script of L ints xs at the cell b, what the Statement gives of the start (any of its parts by flat_of_before) -/
def lw_At (p : Program) (s : State) (m : MethodId) (meth : Method) (c : Code) (b L : Nat) (xs : Nat → Int32) : Prop :=
  p.tables.exec = Jvm.exec ∧ c.code = code ∧ meth.sig.returnType = ret ∧ c.maxLocals = 7 ∧ s.vm.findClass lw_RL = some m.cls ∧ (∀ w ∈ lw_tbl, w.before #[Value.ref b] s = true) ∧ va_X b L xs s s.heap ∧ b < s.heap.size ∧ meth.locks = false ∧ (Jvm.Cond.and given_1 narrow_1).before #[Value.ref b] s = true
/-! the law's loop on the machine -/
theorem dW1473 : decode code 1473 = .ok (.iinc 4 6, 3) := by decide +kernel
theorem dW1476 : decode code 1476 = .ok (.goto (-1453), 3) := by decide +kernel
theorem zlr_tl {ad : Nat → Nat} {i : Nat} {tl : zLs} {lsC : Array Slot} (h : zlr ad 7 (some (.ref 900) :: some (.ref 0) :: some (.ref 127) :: some (.ref 169) :: some (.int (nI i)) :: tl) lsC) : zlr ad 7 (yLs i) lsC := by
  obtain ⟨h1, h2, h3, h4⟩ := h
  refine ⟨rfl, h2, h3, fun j v hj => ?_⟩
  match j, hj with
  | 0, hj => exact h4 0 v hj
  | 1, hj => exact h4 1 v hj
  | 2, hj => exact h4 2 v hj
  | 3, hj => exact h4 3 v hj
  | 4, hj => exact h4 4 v hj
  | 5, hj => cases hj
  | 6, hj => cases hj
  | j + 7, hj => cases hj
theorem zexit_at {pc : Nat} {ls : zLs} {st : List Value} {v : Option Value} (h : zexit 241 pc ls st = some v) : ∃ i tl, ls = some (.ref 900) :: some (.ref 0) :: some (.ref 127) :: some (.ref 169) :: some (.int i) :: tl ∧ st = [] ∧ ((pc = 1473 ∧ v = some (.float i.toUInt32)) ∨ (pc = 348 ∧ v = some (.long i.toInt64))) := by
  unfold zexit at h
  rw [if_pos rfl] at h
  split at h
  next i tl =>
    refine ⟨i, tl, rfl, rfl, ?_⟩
    split at h
    next e => cases h; exact Or.inl ⟨e, rfl⟩
    next =>
      split at h
      next e => cases h; exact Or.inr ⟨e, rfl⟩
      next => cases h
  next => cases h
theorem zflt_inj {a b : Int32} (h : (some (Value.float a.toUInt32) : Option Value) = some (.float b.toUInt32)) : a = b := by
  have h1 : a.toUInt32 = b.toUInt32 := by injection (Option.some.inj h)
  obtain ⟨a⟩ := a
  obtain ⟨b⟩ := b
  exact congrArg Int32.ofUInt32 h1
theorem zlng_inj {a b : Int32} (h : (some (Value.long a.toInt64) : Option Value) = some (.long b.toInt64)) : a = b := by
  have h1 : a.toInt64 = b.toInt64 := by injection (Option.some.inj h)
  have h2 : a.toInt64.toInt32 = b.toInt64.toInt32 := by rw [h1]
  simpa using h2
theorem zNoRet {i : Instr} {st : List Value} {v : Option Value} (h : zrt (some .boolean) i st = some v) (hv : (∃ x, v = some (.float x)) ∨ ∃ x, v = some (.long x)) : False := by
  rcases zrt_spec h with ⟨-, x, -, e, -⟩ | ⟨-, x, -, e, q⟩ | ⟨-, -, e, -⟩
  · rcases hv with ⟨y, hv⟩ | ⟨y, hv⟩ <;> rw [hv] at e <;> cases e
  · cases q
  · rcases hv with ⟨y, hv⟩ | ⟨y, hv⟩ <;> rw [hv] at e <;> cases e
/-- the cells at the head of the loop -/
def zGood (ia : Nat → Nat → Int32) (hp : zHP) : Prop := ∃ ja lb pl dr cp cw rp, hp = (ja, lb, zRA pl dr cp cw rp) ∧ zInv pl dr ja lb ∧ ja 900 = ia 900 ∧ ja 901 = ia 901
section ZH
variable {l : Launch} {ES : (Nat → Prop) → State → Heap → Prop} {D : va_G} {cy : Nat → ClassId} {ad : Nat → Nat} {x0 x1 : Nat → Int32}
variable {p : Program} {e : Env} {s : State} {m : MethodId} {b : Nat} {below : List Frame} {meth : Method} {c : Code} {A : Nat → Prop} {H0 : Heap}
theorem L_fin {d pl dr i L : Nat} {cp cw rp : Option Nat} {ia : Nat → Nat → Int32} {la : Nat → Nat → Int64} {KL : Option Value → zHP → Prop} (eL : ia 901 0 = nI L) (hL : L ≤ 384) (hi : i ≤ L) (h : L < i + 6) (h1 : KL (some (.int 1)) (ia, la, zRA pl dr cp cw rp)) : zWP (d + 401) 241 23 (yLs i) [] (ia, la, zRA pl dr cp cw rp) KL := by
  rw [b241_23, if_pos (show ia 901 0 - 6 < nI i by rw [eL]; exact (zLen hL hi).mpr h)]
  exact h1
/-- where the law's own frame ends with 1 -/
theorem zRet1 (hx : p.tables.exec = Jvm.exec) (hb : c.code = code) (hr : meth.sig.returnType = ret) (hlocks : meth.locks = false) (hAs : ∀ q, A q → s.heap.size ≤ q) {hp : zHP} {H : Heap} {locs : List Loc} {lsC : Array Slot} {cells slots pc len : Nat} {i : Instr} {st : List Value} (hR : zRel D cy ad A H0 x0 x1 hp H locs) (hd : decode code pc = .ok (i, len)) (hlen : zlen i len = true) (hz : zrt (some .boolean) i st = some (some (.int 1))) (hc : cells ≤ 600128) (hs : slots ≤ 7301098) :
    W p l e room_1 s m #[Value.ref b] below meth c H locs cells slots (lw_Z below #[Value.ref b] s) (F0 m pc lsC (st.map (zcv ad))) := by
  rcases zrt_spec hz with ⟨rfl, x, rfl, hv, -⟩ | ⟨rfl, x, rfl, hv, -⟩ | ⟨rfl, rfl, hv, -⟩
  · cases hv
    have e9 : len = 1 := by simpa [zlen] using hlen
    subst e9
    exact va_forget (fun q hq => hAs _ (hR.2.2.1.2.2 q hq)) (W.widen hc hs (lw_ret hx hb hr hlocks hd))
  · cases hv
  · cases hv
set_option maxHeartbeats 4000000 in
theorem zLoop (hlt : l.stackTraces = false) (hE : zESok ES) (hgo : ∀ n, zGo l (zEX ES) D cy ad x0 x1 n) (C : zC (zEX ES) D cy ad A H0 x0 x1 zMw p s m #[Value.ref b] c) (hr : meth.sig.returnType = ret) (hlocks : meth.locks = false) (hAs : ∀ q, A q → s.heap.size ≤ q) {L : Nat} (hL : L ≤ 384) :
    ∀ (n i : Nat) (ia : Nat → Nat → Int32) (la : Nat → Nat → Int64) (pl dr : Nat) (cp cw rp : Option Nat) (H : Heap) (locs : List Loc) (lsC : Array Slot) (cells slots : Nat), L < i + 6 * n + 6 → i ≤ L → zInv pl dr ia la → ia 901 0 = nI L → zRel D cy ad A H0 x0 x1 (ia, la, zRA pl dr cp cw rp) H locs → zlr ad 7 (yLs i) lsC → cells + n ≤ 600128 → slots + 6 * n ≤ 7301098 →
      W p l e room_1 s m #[Value.ref b] below meth c H locs cells slots (lw_Z below #[Value.ref b] s) (F0 m 23 lsC []) := by
  obtain ⟨hx, hb, hml, hown, hT, hK, hv9, hES, hA, hscr, -⟩ := id C
  intro n
  induction n with
  | zero =>
    intro i ia la pl dr cp cw rp H locs lsC cells slots h6 hi hI eL hR hl hc hs
    obtain ⟨n1, hz⟩ := L_fin (d := 0) (pl := pl) (dr := dr) (cp := cp) (cw := cw) (rp := rp) (la := la) (KL := fun v _ => v = some (.int 1)) eL hL hi (by omega) rfl
    refine hgo n1 401 241 23 (yLs i) [] _ _ zMw p e room_1 s m _ below meth c A H0 H locs cells slots _ lsC zm_241 C hz hR hl (by decide) (by decide) (by show cells ≤ 600128; omega) (by show slots ≤ 7301098; omega) ?_
    intro v hp H locs lsC pc ls st hend hv hR hl
    rcases hend with hex | ⟨ii, len, hd, hlen, hzr⟩
    · obtain ⟨i2, tl, -, -, q⟩ := zexit_at hex
      rcases q with ⟨-, q⟩ | ⟨-, q⟩
      · rw [hv] at q; cases q
      · rw [hv] at q; cases q
    · rw [hv] at hzr
      exact zRet1 hx hb hr hlocks hAs hR hd hlen hzr (by omega) (by omega)
  | succ n ih =>
    intro i ia la pl dr cp cw rp H locs lsC cells slots h6 hi hI eL hR hl hc hs
    by_cases hiL : i + 6 ≤ L
    · have next : ∀ (hp : zHP) (H : Heap) (locs : List Loc) (lsC : Array Slot) (tl : zLs) (cells slots : Nat), zGood ia hp → zRel D cy ad A H0 x0 x1 hp H locs → zlr ad 7 (some (.ref 900) :: some (.ref 0) :: some (.ref 127) :: some (.ref 169) :: some (.int (nI i)) :: tl) lsC → cells + n ≤ 600128 → slots + 6 * n ≤ 7301098 → W p l e room_1 s m #[Value.ref b] below meth c H locs cells slots (lw_Z below #[Value.ref b] s) (F0 m 1473 lsC []) := by
        intro hp H locs lsC tl cells slots hg hR hl hc hs
        obtain ⟨ja, lb, pl, dr, cp, cw, rp, rfl, hI, e9, e91⟩ := hg
        refine zact_ok (st := []) C dW1473 rfl rfl hR hl (fun H locs lsC hR hl => ?_)
        refine zact_ok C dW1476 rfl rfl hR hl (fun H locs lsC hR hl => ?_)
        have e6 : nI i + Int32.ofInt 6 = nI (i + 6) := by rw [show Int32.ofInt 6 = nI 6 from rfl, nI_add]
        have hl2 : zlr ad 7 (some (.ref 900) :: some (.ref 0) :: some (.ref 127) :: some (.ref 169) :: some (.int (nI i + Int32.ofInt 6)) :: tl) lsC := hl
        rw [e6] at hl2
        exact ih (i + 6) ja lb pl dr cp cw rp H locs lsC cells slots (by omega) hiL hI (by rw [e91]; exact eL) hR (zlr_tl hl2) hc hs
      obtain ⟨n1, hz⟩ := L_step (d := 0) (cp := cp) (cw := cw) (rp := rp) (KL := fun v hp => (v = some (.float (nI i).toUInt32) ∧ zGood ia hp) ∨ (v = some (.long (nI i).toInt64) ∧ hp = (ia, la, zRA pl dr cp cw rp))) hI eL hL hi (fun _ => by omega) (fun ja lb pl dr cp cw rp q1 q2 q3 => Or.inl ⟨rfl, ja, lb, pl, dr, cp, cw, rp, rfl, q1, q2, q3⟩) (fun _ => Or.inr ⟨rfl, rfl⟩)
      refine hgo n1 401 241 23 (yLs i) [] _ _ zMw p e room_1 s m _ below meth c A H0 H locs cells slots _ lsC zm_241 C hz hR hl (by decide) (by decide) (by show cells ≤ 600128; omega) (by show slots ≤ 7301098; omega) ?_
      intro v hp H locs lsC pc ls st hend hv hR hl
      rcases hend with hex | ⟨ii, len, hd, hlen, hzr⟩
      · obtain ⟨i2, tl, rfl, rfl, q⟩ := zexit_at hex
        rcases hv with ⟨hv, hg⟩ | ⟨hv, rfl⟩
        · rcases q with ⟨rfl, q⟩ | ⟨-, q⟩
          · rw [hv] at q
            have ei : i2 = nI i := zflt_inj q.symm
            subst ei
            exact next hp H locs lsC tl cells slots hg hR hl (by omega) (by omega)
          · rw [hv] at q; cases q
        · rcases q with ⟨-, q⟩ | ⟨rfl, q⟩
          · rw [hv] at q; cases q
          · rw [hv] at q
            have ei : i2 = nI i := zlng_inj q.symm
            subst ei
            obtain ⟨k, w, hk3, hyn, hgo2⟩ := L_hand (d := 0) (cp := cp) (cw := cw) (rp := rp) (KL := fun v hp => v = some (.float (nI i).toUInt32) ∧ zGood ia hp) hI eL hL hiL (fun ja lb pl dr cp cw rp q1 q2 q3 => ⟨rfl, ja, lb, pl, dr, cp, cw, rp, rfl, q1, q2, q3⟩)
            refine zLaw348 (R := room_1) hlt hE hgo C hR hl eL hL hiL (zHw_of hI.1 hyn) (by decide) (by decide) (by show cells + 1 ≤ 600128; omega) (by show slots + 6 ≤ 7301098; omega) (fun H locs lsC hR hl => ?_)
            have h7 : ∀ c, c ≠ 169 → (if k = 0 then zu la 169 0 w.toInt64 else la) c = la c := fun c hc => by
              split
              · exact zu_o hc
              · rfl
            obtain ⟨n2, hz2⟩ := hgo2 (if k = 0 then zu la 169 0 w.toInt64 else la) (h7 72 (by decide)) (h7 82 (by decide)) (fun k0 => by rw [if_pos k0, zu_eq])
            refine hgo n2 401 241 365 (yLs i) [.int (nI k)] _ _ zMw p e room_1 s m _ below meth c A H0 H locs (cells + 1) (slots + 6) _ lsC zm_241 C hz2 hR (zlr_tl hl) (by decide) (by decide) (by show cells + 1 ≤ 600128; omega) (by show slots + 6 ≤ 7301098; omega) ?_
            intro v hp H locs lsC pc ls st hend hv hR hl
            rcases hend with hex | ⟨ii, len, hd, hlen, hzr⟩
            · obtain ⟨i2, tl, rfl, rfl, q⟩ := zexit_at hex
              obtain ⟨hv, hg⟩ := hv
              rcases q with ⟨rfl, q⟩ | ⟨-, q⟩
              · rw [hv] at q
                have ei : i2 = nI i := zflt_inj q.symm
                subst ei
                exact next hp H locs lsC tl (cells + 1) (slots + 6) hg hR hl (by omega) (by omega)
              · rw [hv] at q; cases q
            · rw [hv.1] at hzr
              exact (zNoRet hzr (Or.inl ⟨_, rfl⟩)).elim
      · refine (zNoRet hzr ?_).elim
        rcases hv with ⟨hv, -⟩ | ⟨hv, -⟩
        · exact Or.inl ⟨_, hv⟩
        · exact Or.inr ⟨_, hv⟩
    · obtain ⟨n1, hz⟩ := L_fin (d := 0) (pl := pl) (dr := dr) (cp := cp) (cw := cw) (rp := rp) (la := la) (KL := fun v _ => v = some (.int 1)) eL hL hi (by omega) rfl
      refine hgo n1 401 241 23 (yLs i) [] _ _ zMw p e room_1 s m _ below meth c A H0 H locs cells slots _ lsC zm_241 C hz hR hl (by decide) (by decide) (by show cells ≤ 600128; omega) (by show slots ≤ 7301098; omega) ?_
      intro v hp H locs lsC pc ls st hend hv hR hl
      rcases hend with hex | ⟨ii, len, hd, hlen, hzr⟩
      · obtain ⟨i2, tl, -, -, q⟩ := zexit_at hex
        rcases q with ⟨-, q⟩ | ⟨-, q⟩
        · rw [hv] at q; cases q
        · rw [hv] at q; cases q
      · rw [hv] at hzr
        exact zRet1 hx hb hr hlocks hAs hR hd hlen hzr (by omega) (by omega)
end ZH
