/-! a step of the law's loop -/
theorem zE_exit {d M pc : Nat} {ls : zLs} {st : List Value} {hp : zHP} {K : Option Value → zHP → Prop} {mi : zMI} {v : Option Value} (hm : zmt[M]? = some mi) (hx : zexit M pc ls st = some v) : zWP d M pc ls st hp K = K v hp := by
  have key : ∀ n, zWn (n + 1) d M pc ls st hp K = K v hp := by
    intro n
    rw [zWn]
    rw [hm]; dsimp only; rw [hx]
  apply propext
  constructor
  · rintro ⟨n, h⟩
    cases n with
    | zero => exact h.elim
    | succ n => rw [key] at h; exact h
  · intro h
    exact ⟨1, by rw [key]; exact h⟩
theorem zTwo {d kc km pc1 pc2 : Nat} {asC asM : List Value} {ls : zLs} {hp0 : zHP} {KL : Option Value → zHP → Prop} {ty : Value → Prop} {mc mm : zMI} (hkc : kc < 241) (hmc : zmt[kc]? = some mc) (hkm : km < 241) (hmm : zmt[km]? = some mm) (t1 : ∀ v, zrok mc.2.2.2.1 v → ∃ x, v = some x ∧ ty x) (t2 : ∀ v, zrok mm.2.2.2.1 v → ∃ x, v = some x ∧ ty x)
    (hT : ∀ (Kc : Option Value → zHP → Prop) (Km : Option Value → Option Value → zHP → Prop), (∀ v hp, zWM (d + 400) km asM hp (Km v) → Kc v hp) → zEndK hp0.1 Km → zWM (d + 400) kc asC hp0 Kc)
    (hb1 : ∀ x hp, ty x → zS9 hp0 hp → zWM (d + 400) km asM hp (zK (d + 401) 241 pc2 ls [x] KL) → zWP (d + 401) 241 pc1 ls [x] hp KL)
    (hb2 : ∀ x ja lb pl dr cp cw rp, ty x → zInv pl dr ja lb → ja 900 = hp0.1 900 → ja 901 = hp0.1 901 → zWP (d + 401) 241 pc2 ls [x, x] (ja, lb, zRA pl dr cp cw rp) KL) : zWM (d + 400) kc asC hp0 (zK (d + 401) 241 pc1 ls [] KL) := by
  have h := hT (fun v hp => ∀ x, v = some x → ty x → zS9 hp0 hp → zK (d + 401) 241 pc1 ls [] KL v hp) (fun v v2 hp2 => ∀ x x2, v = some x → ty x → v2 = some x2 → ty x2 → zWP (d + 401) 241 pc2 ls [x2, x] hp2 KL) (fun v hp h x hv hx hs => by
    subst hv
    refine hb1 x hp hx hs (zWM_mono (fun v2 hp2 q => ?_) (zWM_ty hkm hmm h))
    obtain ⟨x2, rfl, hx2⟩ := t2 v2 q.2
    exact q.1 x x2 rfl hx rfl hx2) (fun v ja lb pl dr cp cw rp hi h9 h91 x x2 hv hx hv2 hx2 => by
    rw [hv] at hv2
    cases hv2
    exact hb2 x ja lb pl dr cp cw rp hx hi h9 h91)
  refine zWM_mono (fun v hp q => ?_) (zWM_ty hkc hmc (zWM_scr h))
  obtain ⟨⟨q1, q2⟩, q3⟩ := q
  obtain ⟨x, rfl, hx⟩ := t1 v q3
  exact q1 x rfl hx q2
def zIsI (v : Value) : Prop := ∃ x, v = .int x
def zIsL (v : Value) : Prop := ∃ x, v = .long x
theorem zIsI_t : ∀ v, (∃ x, v = some (Value.int x)) → ∃ x, v = some x ∧ zIsI x := fun _ ⟨x, h⟩ => ⟨_, h, x, rfl⟩
theorem zIsL_t : ∀ v, (∃ x, v = some (Value.long x)) → ∃ x, v = some x ∧ zIsL x := fun _ ⟨x, h⟩ => ⟨_, h, x, rfl⟩
theorem bg241_234 {d : Nat} {i4 : Int32} {s0 : Int32} {hp : zHP} {K : Option Value → zHP → Prop}  : zWP (d + 1) 241 234 [some (.ref 900), some (.ref 0), some (.ref 127), some (.ref 169), some (.int i4), none, none] [.int s0] hp K = (vp_in (i4 + (1 : Int32)) (hp.1 901 0).toNatClampNeg ∧ (vp_in (i4 + (2 : Int32)) (hp.1 901 0).toNatClampNeg ∧ (vp_in (i4 + (3 : Int32)) (hp.1 901 0).toNatClampNeg ∧ (vp_in (i4 + (4 : Int32)) (hp.1 901 0).toNatClampNeg ∧ (vp_in (i4 + (5 : Int32)) (hp.1 901 0).toNatClampNeg ∧ zWM d 129 [.ref 127, .int (hp.1 900 ((i4 + (1 : Int32))).toNatClampNeg), .int (hp.1 900 ((i4 + (2 : Int32))).toNatClampNeg), .int (hp.1 900 ((i4 + (3 : Int32))).toNatClampNeg), .int (hp.1 900 ((i4 + (4 : Int32))).toNatClampNeg), .int (hp.1 900 ((i4 + (5 : Int32))).toNatClampNeg)] hp (zK (d + 1) 241 268 [some (.ref 900), some (.ref 0), some (.ref 127), some (.ref 169), some (.int i4), none, none] [.int s0] K)))))) := by
  refine (Q_aload_n zm_241 (Or.inr (by decide)) D241_234 rfl).trans ?_
  refine (Q_aload_n zm_241 (Or.inr (by decide)) D241_235 rfl).trans ?_
  refine (Q_iload zm_241 (Or.inr (by decide)) D241_236 rfl).trans ?_
  refine (Q_iconst (v := 1) zm_241 (Or.inr (by decide)) D241_238 (by decide)).trans ?_
  refine (Q_iadd zm_241 (Or.inr (by decide)) D241_239).trans ?_
  refine (Q_sld zm_241 (Or.inr (by decide)) D241_240 rfl).trans ?_
  refine zand_c (fun h0_ => ?_)
  refine (Q_aload_n zm_241 (Or.inr (by decide)) D241_241 rfl).trans ?_
  refine (Q_iload zm_241 (Or.inr (by decide)) D241_242 rfl).trans ?_
  refine (Q_iconst (v := 2) zm_241 (Or.inr (by decide)) D241_244 (by decide)).trans ?_
  refine (Q_iadd zm_241 (Or.inr (by decide)) D241_245).trans ?_
  refine (Q_sld zm_241 (Or.inr (by decide)) D241_246 rfl).trans ?_
  refine zand_c (fun h1_ => ?_)
  refine (Q_aload_n zm_241 (Or.inr (by decide)) D241_247 rfl).trans ?_
  refine (Q_iload zm_241 (Or.inr (by decide)) D241_248 rfl).trans ?_
  refine (Q_iconst (v := 3) zm_241 (Or.inr (by decide)) D241_250 (by decide)).trans ?_
  refine (Q_iadd zm_241 (Or.inr (by decide)) D241_251).trans ?_
  refine (Q_sld zm_241 (Or.inr (by decide)) D241_252 rfl).trans ?_
  refine zand_c (fun h2_ => ?_)
  refine (Q_aload_n zm_241 (Or.inr (by decide)) D241_253 rfl).trans ?_
  refine (Q_iload zm_241 (Or.inr (by decide)) D241_254 rfl).trans ?_
  refine (Q_iconst (v := 4) zm_241 (Or.inr (by decide)) D241_256 (by decide)).trans ?_
  refine (Q_iadd zm_241 (Or.inr (by decide)) D241_257).trans ?_
  refine (Q_sld zm_241 (Or.inr (by decide)) D241_258 rfl).trans ?_
  refine zand_c (fun h3_ => ?_)
  refine (Q_aload_n zm_241 (Or.inr (by decide)) D241_259 rfl).trans ?_
  refine (Q_iload zm_241 (Or.inr (by decide)) D241_260 rfl).trans ?_
  refine (Q_iconst (v := 5) zm_241 (Or.inr (by decide)) D241_262 (by decide)).trans ?_
  refine (Q_iadd zm_241 (Or.inr (by decide)) D241_263).trans ?_
  refine (Q_sld zm_241 (Or.inr (by decide)) D241_264 rfl).trans ?_
  refine zand_c (fun h4_ => ?_)
  exact Q_callv (as := [.int (hp.1 900 ((i4 + (1 : Int32))).toNatClampNeg), .int (hp.1 900 ((i4 + (2 : Int32))).toNatClampNeg), .int (hp.1 900 ((i4 + (3 : Int32))).toNatClampNeg), .int (hp.1 900 ((i4 + (4 : Int32))).toNatClampNeg), .int (hp.1 900 ((i4 + (5 : Int32))).toNatClampNeg)]) (b := 127) (rest := [.int s0]) zm_241 (Or.inr (by decide)) D241_265 zc_11_25 rfl zk_127.1 (by decide) (by decide +kernel) (by decide) (by simp [zcat, Value.category]) zm_129 rfl
theorem bg241_283 {d : Nat} {i4 : Int32} {s0 : Int32} {hp : zHP} {K : Option Value → zHP → Prop}  : zWP (d + 1) 241 283 [some (.ref 900), some (.ref 0), some (.ref 127), some (.ref 169), some (.int i4), none, none] [.int s0] hp K = (vp_in (i4 + (1 : Int32)) (hp.1 901 0).toNatClampNeg ∧ zWM d 161 [.ref 127, .int (hp.1 900 ((i4 + (1 : Int32))).toNatClampNeg)] hp (zK (d + 1) 241 293 [some (.ref 900), some (.ref 0), some (.ref 127), some (.ref 169), some (.int i4), none, none] [.int s0] K)) := by
  refine (Q_aload_n zm_241 (Or.inr (by decide)) D241_283 rfl).trans ?_
  refine (Q_aload_n zm_241 (Or.inr (by decide)) D241_284 rfl).trans ?_
  refine (Q_iload zm_241 (Or.inr (by decide)) D241_285 rfl).trans ?_
  refine (Q_iconst (v := 1) zm_241 (Or.inr (by decide)) D241_287 (by decide)).trans ?_
  refine (Q_iadd zm_241 (Or.inr (by decide)) D241_288).trans ?_
  refine (Q_sld zm_241 (Or.inr (by decide)) D241_289 rfl).trans ?_
  refine zand_c (fun h0_ => ?_)
  exact Q_callv (as := [.int (hp.1 900 ((i4 + (1 : Int32))).toNatClampNeg)]) (b := 127) (rest := [.int s0]) zm_241 (Or.inr (by decide)) D241_290 zc_11_30 rfl zk_127.1 (by decide) (by decide +kernel) (by decide) (by simp [zcat, Value.category]) zm_161 rfl
theorem bg241_308 {d : Nat} {i4 : Int32} {s0 : Int32} {hp : zHP} {K : Option Value → zHP → Prop}  : zWP (d + 1) 241 308 [some (.ref 900), some (.ref 0), some (.ref 127), some (.ref 169), some (.int i4), none, none] [.int s0] hp K = (vp_in (i4 + (1 : Int32)) (hp.1 901 0).toNatClampNeg ∧ zWM d 162 [.ref 127, .int (hp.1 900 ((i4 + (1 : Int32))).toNatClampNeg)] hp (zK (d + 1) 241 318 [some (.ref 900), some (.ref 0), some (.ref 127), some (.ref 169), some (.int i4), none, none] [.int s0] K)) := by
  refine (Q_aload_n zm_241 (Or.inr (by decide)) D241_308 rfl).trans ?_
  refine (Q_aload_n zm_241 (Or.inr (by decide)) D241_309 rfl).trans ?_
  refine (Q_iload zm_241 (Or.inr (by decide)) D241_310 rfl).trans ?_
  refine (Q_iconst (v := 1) zm_241 (Or.inr (by decide)) D241_312 (by decide)).trans ?_
  refine (Q_iadd zm_241 (Or.inr (by decide)) D241_313).trans ?_
  refine (Q_sld zm_241 (Or.inr (by decide)) D241_314 rfl).trans ?_
  refine zand_c (fun h0_ => ?_)
  exact Q_callv (as := [.int (hp.1 900 ((i4 + (1 : Int32))).toNatClampNeg)]) (b := 127) (rest := [.int s0]) zm_241 (Or.inr (by decide)) D241_315 zc_11_34 rfl zk_127.1 (by decide) (by decide +kernel) (by decide) (by simp [zcat, Value.category]) zm_162 rfl
theorem bg241_333 {d : Nat} {i4 : Int32} {s0 : Int32} {hp : zHP} {K : Option Value → zHP → Prop}  : zWP (d + 1) 241 333 [some (.ref 900), some (.ref 0), some (.ref 127), some (.ref 169), some (.int i4), none, none] [.int s0] hp K = (vp_in (i4 + (1 : Int32)) (hp.1 901 0).toNatClampNeg ∧ zWM d 163 [.ref 127, .int (hp.1 900 ((i4 + (1 : Int32))).toNatClampNeg)] hp (zK (d + 1) 241 343 [some (.ref 900), some (.ref 0), some (.ref 127), some (.ref 169), some (.int i4), none, none] [.int s0] K)) := by
  refine (Q_aload_n zm_241 (Or.inr (by decide)) D241_333 rfl).trans ?_
  refine (Q_aload_n zm_241 (Or.inr (by decide)) D241_334 rfl).trans ?_
  refine (Q_iload zm_241 (Or.inr (by decide)) D241_335 rfl).trans ?_
  refine (Q_iconst (v := 1) zm_241 (Or.inr (by decide)) D241_337 (by decide)).trans ?_
  refine (Q_iadd zm_241 (Or.inr (by decide)) D241_338).trans ?_
  refine (Q_sld zm_241 (Or.inr (by decide)) D241_339 rfl).trans ?_
  refine zand_c (fun h0_ => ?_)
  exact Q_callv (as := [.int (hp.1 900 ((i4 + (1 : Int32))).toNatClampNeg)]) (b := 127) (rest := [.int s0]) zm_241 (Or.inr (by decide)) D241_340 zc_11_38 rfl zk_127.1 (by decide) (by decide +kernel) (by decide) (by simp [zcat, Value.category]) zm_163 rfl
theorem bg241_432 {d : Nat} {i4 : Int32} {s0 : Int32} {hp : zHP} {K : Option Value → zHP → Prop}  : zWP (d + 1) 241 432 [some (.ref 900), some (.ref 0), some (.ref 127), some (.ref 169), some (.int i4), none, none] [.int s0] hp K = (vp_in (i4 + (1 : Int32)) (hp.1 901 0).toNatClampNeg ∧ (vp_in (i4 + (2 : Int32)) (hp.1 901 0).toNatClampNeg ∧ zWM d 193 [.ref 127, .int (hp.1 900 ((i4 + (1 : Int32))).toNatClampNeg), .int (hp.1 900 ((i4 + (2 : Int32))).toNatClampNeg)] hp (zK (d + 1) 241 448 [some (.ref 900), some (.ref 0), some (.ref 127), some (.ref 169), some (.int i4), none, none] [.int s0] K))) := by
  refine (Q_aload_n zm_241 (Or.inr (by decide)) D241_432 rfl).trans ?_
  refine (Q_aload_n zm_241 (Or.inr (by decide)) D241_433 rfl).trans ?_
  refine (Q_iload zm_241 (Or.inr (by decide)) D241_434 rfl).trans ?_
  refine (Q_iconst (v := 1) zm_241 (Or.inr (by decide)) D241_436 (by decide)).trans ?_
  refine (Q_iadd zm_241 (Or.inr (by decide)) D241_437).trans ?_
  refine (Q_sld zm_241 (Or.inr (by decide)) D241_438 rfl).trans ?_
  refine zand_c (fun h0_ => ?_)
  refine (Q_aload_n zm_241 (Or.inr (by decide)) D241_439 rfl).trans ?_
  refine (Q_iload zm_241 (Or.inr (by decide)) D241_440 rfl).trans ?_
  refine (Q_iconst (v := 2) zm_241 (Or.inr (by decide)) D241_442 (by decide)).trans ?_
  refine (Q_iadd zm_241 (Or.inr (by decide)) D241_443).trans ?_
  refine (Q_sld zm_241 (Or.inr (by decide)) D241_444 rfl).trans ?_
  refine zand_c (fun h1_ => ?_)
  exact Q_callv (as := [.int (hp.1 900 ((i4 + (1 : Int32))).toNatClampNeg), .int (hp.1 900 ((i4 + (2 : Int32))).toNatClampNeg)]) (b := 127) (rest := [.int s0]) zm_241 (Or.inr (by decide)) D241_445 zc_11_52 rfl zk_127.1 (by decide) (by decide +kernel) (by decide) (by simp [zcat, Value.category]) zm_193 rfl
theorem bg241_469 {d : Nat} {i4 : Int32} {s0 : Int32} {hp : zHP} {K : Option Value → zHP → Prop}  : zWP (d + 1) 241 469 [some (.ref 900), some (.ref 0), some (.ref 127), some (.ref 169), some (.int i4), none, none] [.int s0] hp K = (vp_in (i4 + (1 : Int32)) (hp.1 901 0).toNatClampNeg ∧ (vp_in (i4 + (2 : Int32)) (hp.1 901 0).toNatClampNeg ∧ zWM d 194 [.ref 127, .int (hp.1 900 ((i4 + (1 : Int32))).toNatClampNeg), .int (hp.1 900 ((i4 + (2 : Int32))).toNatClampNeg)] hp (zK (d + 1) 241 485 [some (.ref 900), some (.ref 0), some (.ref 127), some (.ref 169), some (.int i4), none, none] [.int s0] K))) := by
  refine (Q_aload_n zm_241 (Or.inr (by decide)) D241_469 rfl).trans ?_
  refine (Q_aload_n zm_241 (Or.inr (by decide)) D241_470 rfl).trans ?_
  refine (Q_iload zm_241 (Or.inr (by decide)) D241_471 rfl).trans ?_
  refine (Q_iconst (v := 1) zm_241 (Or.inr (by decide)) D241_473 (by decide)).trans ?_
  refine (Q_iadd zm_241 (Or.inr (by decide)) D241_474).trans ?_
  refine (Q_sld zm_241 (Or.inr (by decide)) D241_475 rfl).trans ?_
  refine zand_c (fun h0_ => ?_)
  refine (Q_aload_n zm_241 (Or.inr (by decide)) D241_476 rfl).trans ?_
  refine (Q_iload zm_241 (Or.inr (by decide)) D241_477 rfl).trans ?_
  refine (Q_iconst (v := 2) zm_241 (Or.inr (by decide)) D241_479 (by decide)).trans ?_
  refine (Q_iadd zm_241 (Or.inr (by decide)) D241_480).trans ?_
  refine (Q_sld zm_241 (Or.inr (by decide)) D241_481 rfl).trans ?_
  refine zand_c (fun h1_ => ?_)
  exact Q_callv (as := [.int (hp.1 900 ((i4 + (1 : Int32))).toNatClampNeg), .int (hp.1 900 ((i4 + (2 : Int32))).toNatClampNeg)]) (b := 127) (rest := [.int s0]) zm_241 (Or.inr (by decide)) D241_482 zc_11_56 rfl zk_127.1 (by decide) (by decide +kernel) (by decide) (by simp [zcat, Value.category]) zm_194 rfl
theorem bg241_518 {d : Nat} {i4 : Int32} {t0 : Int64} {hp : zHP} {K : Option Value → zHP → Prop}  : zWP (d + 1) 241 518 [some (.ref 900), some (.ref 0), some (.ref 127), some (.ref 169), some (.int i4), none, none] [.long t0] hp K = (vp_in (i4 + (1 : Int32)) (hp.1 901 0).toNatClampNeg ∧ (vp_in (i4 + (2 : Int32)) (hp.1 901 0).toNatClampNeg ∧ (vp_in (i4 + (3 : Int32)) (hp.1 901 0).toNatClampNeg ∧ (vp_in (i4 + (4 : Int32)) (hp.1 901 0).toNatClampNeg ∧ zWM d 195 [.ref 127, .int (hp.1 900 ((i4 + (1 : Int32))).toNatClampNeg), .int (hp.1 900 ((i4 + (2 : Int32))).toNatClampNeg), .int (hp.1 900 ((i4 + (3 : Int32))).toNatClampNeg), .int (hp.1 900 ((i4 + (4 : Int32))).toNatClampNeg)] hp (zK (d + 1) 241 546 [some (.ref 900), some (.ref 0), some (.ref 127), some (.ref 169), some (.int i4), none, none] [.long t0] K))))) := by
  refine (Q_aload_n zm_241 (Or.inr (by decide)) D241_518 rfl).trans ?_
  refine (Q_aload_n zm_241 (Or.inr (by decide)) D241_519 rfl).trans ?_
  refine (Q_iload zm_241 (Or.inr (by decide)) D241_520 rfl).trans ?_
  refine (Q_iconst (v := 1) zm_241 (Or.inr (by decide)) D241_522 (by decide)).trans ?_
  refine (Q_iadd zm_241 (Or.inr (by decide)) D241_523).trans ?_
  refine (Q_sld zm_241 (Or.inr (by decide)) D241_524 rfl).trans ?_
  refine zand_c (fun h0_ => ?_)
  refine (Q_aload_n zm_241 (Or.inr (by decide)) D241_525 rfl).trans ?_
  refine (Q_iload zm_241 (Or.inr (by decide)) D241_526 rfl).trans ?_
  refine (Q_iconst (v := 2) zm_241 (Or.inr (by decide)) D241_528 (by decide)).trans ?_
  refine (Q_iadd zm_241 (Or.inr (by decide)) D241_529).trans ?_
  refine (Q_sld zm_241 (Or.inr (by decide)) D241_530 rfl).trans ?_
  refine zand_c (fun h1_ => ?_)
  refine (Q_aload_n zm_241 (Or.inr (by decide)) D241_531 rfl).trans ?_
  refine (Q_iload zm_241 (Or.inr (by decide)) D241_532 rfl).trans ?_
  refine (Q_iconst (v := 3) zm_241 (Or.inr (by decide)) D241_534 (by decide)).trans ?_
  refine (Q_iadd zm_241 (Or.inr (by decide)) D241_535).trans ?_
  refine (Q_sld zm_241 (Or.inr (by decide)) D241_536 rfl).trans ?_
  refine zand_c (fun h2_ => ?_)
  refine (Q_aload_n zm_241 (Or.inr (by decide)) D241_537 rfl).trans ?_
  refine (Q_iload zm_241 (Or.inr (by decide)) D241_538 rfl).trans ?_
  refine (Q_iconst (v := 4) zm_241 (Or.inr (by decide)) D241_540 (by decide)).trans ?_
  refine (Q_iadd zm_241 (Or.inr (by decide)) D241_541).trans ?_
  refine (Q_sld zm_241 (Or.inr (by decide)) D241_542 rfl).trans ?_
  refine zand_c (fun h3_ => ?_)
  exact Q_callv (as := [.int (hp.1 900 ((i4 + (1 : Int32))).toNatClampNeg), .int (hp.1 900 ((i4 + (2 : Int32))).toNatClampNeg), .int (hp.1 900 ((i4 + (3 : Int32))).toNatClampNeg), .int (hp.1 900 ((i4 + (4 : Int32))).toNatClampNeg)]) (b := 127) (rest := [.long t0]) zm_241 (Or.inr (by decide)) D241_543 zc_11_61 rfl zk_127.1 (by decide) (by decide +kernel) (by decide) (by simp [zcat, Value.category]) zm_195 rfl
theorem bg241_580 {d : Nat} {i4 : Int32} {s0 : Int32} {hp : zHP} {K : Option Value → zHP → Prop}  : zWP (d + 1) 241 580 [some (.ref 900), some (.ref 0), some (.ref 127), some (.ref 169), some (.int i4), none, none] [.int s0] hp K = (vp_in (i4 + (1 : Int32)) (hp.1 901 0).toNatClampNeg ∧ (vp_in (i4 + (2 : Int32)) (hp.1 901 0).toNatClampNeg ∧ (vp_in (i4 + (3 : Int32)) (hp.1 901 0).toNatClampNeg ∧ (vp_in (i4 + (4 : Int32)) (hp.1 901 0).toNatClampNeg ∧ zWM d 197 [.ref 127, .int (hp.1 900 ((i4 + (1 : Int32))).toNatClampNeg), .int (hp.1 900 ((i4 + (2 : Int32))).toNatClampNeg), .int (hp.1 900 ((i4 + (3 : Int32))).toNatClampNeg), .int (hp.1 900 ((i4 + (4 : Int32))).toNatClampNeg)] hp (zK (d + 1) 241 608 [some (.ref 900), some (.ref 0), some (.ref 127), some (.ref 169), some (.int i4), none, none] [.int s0] K))))) := by
  refine (Q_aload_n zm_241 (Or.inr (by decide)) D241_580 rfl).trans ?_
  refine (Q_aload_n zm_241 (Or.inr (by decide)) D241_581 rfl).trans ?_
  refine (Q_iload zm_241 (Or.inr (by decide)) D241_582 rfl).trans ?_
  refine (Q_iconst (v := 1) zm_241 (Or.inr (by decide)) D241_584 (by decide)).trans ?_
  refine (Q_iadd zm_241 (Or.inr (by decide)) D241_585).trans ?_
  refine (Q_sld zm_241 (Or.inr (by decide)) D241_586 rfl).trans ?_
  refine zand_c (fun h0_ => ?_)
  refine (Q_aload_n zm_241 (Or.inr (by decide)) D241_587 rfl).trans ?_
  refine (Q_iload zm_241 (Or.inr (by decide)) D241_588 rfl).trans ?_
  refine (Q_iconst (v := 2) zm_241 (Or.inr (by decide)) D241_590 (by decide)).trans ?_
  refine (Q_iadd zm_241 (Or.inr (by decide)) D241_591).trans ?_
  refine (Q_sld zm_241 (Or.inr (by decide)) D241_592 rfl).trans ?_
  refine zand_c (fun h1_ => ?_)
  refine (Q_aload_n zm_241 (Or.inr (by decide)) D241_593 rfl).trans ?_
  refine (Q_iload zm_241 (Or.inr (by decide)) D241_594 rfl).trans ?_
  refine (Q_iconst (v := 3) zm_241 (Or.inr (by decide)) D241_596 (by decide)).trans ?_
  refine (Q_iadd zm_241 (Or.inr (by decide)) D241_597).trans ?_
  refine (Q_sld zm_241 (Or.inr (by decide)) D241_598 rfl).trans ?_
  refine zand_c (fun h2_ => ?_)
  refine (Q_aload_n zm_241 (Or.inr (by decide)) D241_599 rfl).trans ?_
  refine (Q_iload zm_241 (Or.inr (by decide)) D241_600 rfl).trans ?_
  refine (Q_iconst (v := 4) zm_241 (Or.inr (by decide)) D241_602 (by decide)).trans ?_
  refine (Q_iadd zm_241 (Or.inr (by decide)) D241_603).trans ?_
  refine (Q_sld zm_241 (Or.inr (by decide)) D241_604 rfl).trans ?_
  refine zand_c (fun h3_ => ?_)
  exact Q_callv (as := [.int (hp.1 900 ((i4 + (1 : Int32))).toNatClampNeg), .int (hp.1 900 ((i4 + (2 : Int32))).toNatClampNeg), .int (hp.1 900 ((i4 + (3 : Int32))).toNatClampNeg), .int (hp.1 900 ((i4 + (4 : Int32))).toNatClampNeg)]) (b := 127) (rest := [.int s0]) zm_241 (Or.inr (by decide)) D241_605 zc_11_66 rfl zk_127.1 (by decide) (by decide +kernel) (by decide) (by simp [zcat, Value.category]) zm_197 rfl
theorem bg241_623 {d : Nat} {i4 : Int32} {s0 : Int32} {hp : zHP} {K : Option Value → zHP → Prop}  : zWP (d + 1) 241 623 [some (.ref 900), some (.ref 0), some (.ref 127), some (.ref 169), some (.int i4), none, none] [.int s0] hp K = (vp_in (i4 + (1 : Int32)) (hp.1 901 0).toNatClampNeg ∧ zWM d 198 [.ref 127, .int (hp.1 900 ((i4 + (1 : Int32))).toNatClampNeg)] hp (zK (d + 1) 241 633 [some (.ref 900), some (.ref 0), some (.ref 127), some (.ref 169), some (.int i4), none, none] [.int s0] K)) := by
  refine (Q_aload_n zm_241 (Or.inr (by decide)) D241_623 rfl).trans ?_
  refine (Q_aload_n zm_241 (Or.inr (by decide)) D241_624 rfl).trans ?_
  refine (Q_iload zm_241 (Or.inr (by decide)) D241_625 rfl).trans ?_
  refine (Q_iconst (v := 1) zm_241 (Or.inr (by decide)) D241_627 (by decide)).trans ?_
  refine (Q_iadd zm_241 (Or.inr (by decide)) D241_628).trans ?_
  refine (Q_sld zm_241 (Or.inr (by decide)) D241_629 rfl).trans ?_
  refine zand_c (fun h0_ => ?_)
  exact Q_callv (as := [.int (hp.1 900 ((i4 + (1 : Int32))).toNatClampNeg)]) (b := 127) (rest := [.int s0]) zm_241 (Or.inr (by decide)) D241_630 zc_11_70 rfl zk_127.1 (by decide) (by decide +kernel) (by decide) (by simp [zcat, Value.category]) zm_198 rfl
theorem bg241_648 {d : Nat} {i4 : Int32} {s0 : Int32} {hp : zHP} {K : Option Value → zHP → Prop}  : zWP (d + 1) 241 648 [some (.ref 900), some (.ref 0), some (.ref 127), some (.ref 169), some (.int i4), none, none] [.int s0] hp K = (vp_in (i4 + (1 : Int32)) (hp.1 901 0).toNatClampNeg ∧ zWM d 200 [.ref 127, .int (hp.1 900 ((i4 + (1 : Int32))).toNatClampNeg)] hp (zK (d + 1) 241 658 [some (.ref 900), some (.ref 0), some (.ref 127), some (.ref 169), some (.int i4), none, none] [.int s0] K)) := by
  refine (Q_aload_n zm_241 (Or.inr (by decide)) D241_648 rfl).trans ?_
  refine (Q_aload_n zm_241 (Or.inr (by decide)) D241_649 rfl).trans ?_
  refine (Q_iload zm_241 (Or.inr (by decide)) D241_650 rfl).trans ?_
  refine (Q_iconst (v := 1) zm_241 (Or.inr (by decide)) D241_652 (by decide)).trans ?_
  refine (Q_iadd zm_241 (Or.inr (by decide)) D241_653).trans ?_
  refine (Q_sld zm_241 (Or.inr (by decide)) D241_654 rfl).trans ?_
  refine zand_c (fun h0_ => ?_)
  exact Q_callv (as := [.int (hp.1 900 ((i4 + (1 : Int32))).toNatClampNeg)]) (b := 127) (rest := [.int s0]) zm_241 (Or.inr (by decide)) D241_655 zc_11_74 rfl zk_127.1 (by decide) (by decide +kernel) (by decide) (by simp [zcat, Value.category]) zm_200 rfl
theorem bg241_673 {d : Nat} {i4 : Int32} {s0 : Int32} {hp : zHP} {K : Option Value → zHP → Prop}  : zWP (d + 1) 241 673 [some (.ref 900), some (.ref 0), some (.ref 127), some (.ref 169), some (.int i4), none, none] [.int s0] hp K = (vp_in (i4 + (1 : Int32)) (hp.1 901 0).toNatClampNeg ∧ zWM d 201 [.ref 127, .int (hp.1 900 ((i4 + (1 : Int32))).toNatClampNeg)] hp (zK (d + 1) 241 683 [some (.ref 900), some (.ref 0), some (.ref 127), some (.ref 169), some (.int i4), none, none] [.int s0] K)) := by
  refine (Q_aload_n zm_241 (Or.inr (by decide)) D241_673 rfl).trans ?_
  refine (Q_aload_n zm_241 (Or.inr (by decide)) D241_674 rfl).trans ?_
  refine (Q_iload zm_241 (Or.inr (by decide)) D241_675 rfl).trans ?_
  refine (Q_iconst (v := 1) zm_241 (Or.inr (by decide)) D241_677 (by decide)).trans ?_
  refine (Q_iadd zm_241 (Or.inr (by decide)) D241_678).trans ?_
  refine (Q_sld zm_241 (Or.inr (by decide)) D241_679 rfl).trans ?_
  refine zand_c (fun h0_ => ?_)
  exact Q_callv (as := [.int (hp.1 900 ((i4 + (1 : Int32))).toNatClampNeg)]) (b := 127) (rest := [.int s0]) zm_241 (Or.inr (by decide)) D241_680 zc_11_78 rfl zk_127.1 (by decide) (by decide +kernel) (by decide) (by simp [zcat, Value.category]) zm_201 rfl
theorem bg241_710 {d : Nat} {i4 : Int32} {s0 : Int32} {hp : zHP} {K : Option Value → zHP → Prop}  : zWP (d + 1) 241 710 [some (.ref 900), some (.ref 0), some (.ref 127), some (.ref 169), some (.int i4), none, none] [.int s0] hp K = (vp_in (i4 + (1 : Int32)) (hp.1 901 0).toNatClampNeg ∧ (vp_in (i4 + (2 : Int32)) (hp.1 901 0).toNatClampNeg ∧ (vp_in (i4 + (3 : Int32)) (hp.1 901 0).toNatClampNeg ∧ zWM d 202 [.ref 127, .int (hp.1 900 ((i4 + (1 : Int32))).toNatClampNeg), .int (hp.1 900 ((i4 + (2 : Int32))).toNatClampNeg), .int (hp.1 900 ((i4 + (3 : Int32))).toNatClampNeg)] hp (zK (d + 1) 241 732 [some (.ref 900), some (.ref 0), some (.ref 127), some (.ref 169), some (.int i4), none, none] [.int s0] K)))) := by
  refine (Q_aload_n zm_241 (Or.inr (by decide)) D241_710 rfl).trans ?_
  refine (Q_aload_n zm_241 (Or.inr (by decide)) D241_711 rfl).trans ?_
  refine (Q_iload zm_241 (Or.inr (by decide)) D241_712 rfl).trans ?_
  refine (Q_iconst (v := 1) zm_241 (Or.inr (by decide)) D241_714 (by decide)).trans ?_
  refine (Q_iadd zm_241 (Or.inr (by decide)) D241_715).trans ?_
  refine (Q_sld zm_241 (Or.inr (by decide)) D241_716 rfl).trans ?_
  refine zand_c (fun h0_ => ?_)
  refine (Q_aload_n zm_241 (Or.inr (by decide)) D241_717 rfl).trans ?_
  refine (Q_iload zm_241 (Or.inr (by decide)) D241_718 rfl).trans ?_
  refine (Q_iconst (v := 2) zm_241 (Or.inr (by decide)) D241_720 (by decide)).trans ?_
  refine (Q_iadd zm_241 (Or.inr (by decide)) D241_721).trans ?_
  refine (Q_sld zm_241 (Or.inr (by decide)) D241_722 rfl).trans ?_
  refine zand_c (fun h1_ => ?_)
  refine (Q_aload_n zm_241 (Or.inr (by decide)) D241_723 rfl).trans ?_
  refine (Q_iload zm_241 (Or.inr (by decide)) D241_724 rfl).trans ?_
  refine (Q_iconst (v := 3) zm_241 (Or.inr (by decide)) D241_726 (by decide)).trans ?_
  refine (Q_iadd zm_241 (Or.inr (by decide)) D241_727).trans ?_
  refine (Q_sld zm_241 (Or.inr (by decide)) D241_728 rfl).trans ?_
  refine zand_c (fun h2_ => ?_)
  exact Q_callv (as := [.int (hp.1 900 ((i4 + (1 : Int32))).toNatClampNeg), .int (hp.1 900 ((i4 + (2 : Int32))).toNatClampNeg), .int (hp.1 900 ((i4 + (3 : Int32))).toNatClampNeg)]) (b := 127) (rest := [.int s0]) zm_241 (Or.inr (by decide)) D241_729 zc_11_83 rfl zk_127.1 (by decide) (by decide +kernel) (by decide) (by simp [zcat, Value.category]) zm_202 rfl
theorem bg241_747 {d : Nat} {i4 : Int32} {s0 : Int32} {hp : zHP} {K : Option Value → zHP → Prop}  : zWP (d + 1) 241 747 [some (.ref 900), some (.ref 0), some (.ref 127), some (.ref 169), some (.int i4), none, none] [.int s0] hp K = (vp_in (i4 + (1 : Int32)) (hp.1 901 0).toNatClampNeg ∧ zWM d 203 [.ref 127, .int (hp.1 900 ((i4 + (1 : Int32))).toNatClampNeg)] hp (zK (d + 1) 241 757 [some (.ref 900), some (.ref 0), some (.ref 127), some (.ref 169), some (.int i4), none, none] [.int s0] K)) := by
  refine (Q_aload_n zm_241 (Or.inr (by decide)) D241_747 rfl).trans ?_
  refine (Q_aload_n zm_241 (Or.inr (by decide)) D241_748 rfl).trans ?_
  refine (Q_iload zm_241 (Or.inr (by decide)) D241_749 rfl).trans ?_
  refine (Q_iconst (v := 1) zm_241 (Or.inr (by decide)) D241_751 (by decide)).trans ?_
  refine (Q_iadd zm_241 (Or.inr (by decide)) D241_752).trans ?_
  refine (Q_sld zm_241 (Or.inr (by decide)) D241_753 rfl).trans ?_
  refine zand_c (fun h0_ => ?_)
  exact Q_callv (as := [.int (hp.1 900 ((i4 + (1 : Int32))).toNatClampNeg)]) (b := 127) (rest := [.int s0]) zm_241 (Or.inr (by decide)) D241_754 zc_11_87 rfl zk_127.1 (by decide) (by decide +kernel) (by decide) (by simp [zcat, Value.category]) zm_203 rfl
theorem bg241_778 {d : Nat} {i4 : Int32} {s0 : Int32} {hp : zHP} {K : Option Value → zHP → Prop}  : zWP (d + 1) 241 778 [some (.ref 900), some (.ref 0), some (.ref 127), some (.ref 169), some (.int i4), none, none] [.int s0] hp K = (vp_in (i4 + (1 : Int32)) (hp.1 901 0).toNatClampNeg ∧ (vp_in (i4 + (2 : Int32)) (hp.1 901 0).toNatClampNeg ∧ zWM d 204 [.ref 127, .int (hp.1 900 ((i4 + (1 : Int32))).toNatClampNeg), .int (hp.1 900 ((i4 + (2 : Int32))).toNatClampNeg)] hp (zK (d + 1) 241 794 [some (.ref 900), some (.ref 0), some (.ref 127), some (.ref 169), some (.int i4), none, none] [.int s0] K))) := by
  refine (Q_aload_n zm_241 (Or.inr (by decide)) D241_778 rfl).trans ?_
  refine (Q_aload_n zm_241 (Or.inr (by decide)) D241_779 rfl).trans ?_
  refine (Q_iload zm_241 (Or.inr (by decide)) D241_780 rfl).trans ?_
  refine (Q_iconst (v := 1) zm_241 (Or.inr (by decide)) D241_782 (by decide)).trans ?_
  refine (Q_iadd zm_241 (Or.inr (by decide)) D241_783).trans ?_
  refine (Q_sld zm_241 (Or.inr (by decide)) D241_784 rfl).trans ?_
  refine zand_c (fun h0_ => ?_)
  refine (Q_aload_n zm_241 (Or.inr (by decide)) D241_785 rfl).trans ?_
  refine (Q_iload zm_241 (Or.inr (by decide)) D241_786 rfl).trans ?_
  refine (Q_iconst (v := 2) zm_241 (Or.inr (by decide)) D241_788 (by decide)).trans ?_
  refine (Q_iadd zm_241 (Or.inr (by decide)) D241_789).trans ?_
  refine (Q_sld zm_241 (Or.inr (by decide)) D241_790 rfl).trans ?_
  refine zand_c (fun h1_ => ?_)
  exact Q_callv (as := [.int (hp.1 900 ((i4 + (1 : Int32))).toNatClampNeg), .int (hp.1 900 ((i4 + (2 : Int32))).toNatClampNeg)]) (b := 127) (rest := [.int s0]) zm_241 (Or.inr (by decide)) D241_791 zc_11_91 rfl zk_127.1 (by decide) (by decide +kernel) (by decide) (by simp [zcat, Value.category]) zm_204 rfl
theorem bg241_809 {d : Nat} {i4 : Int32} {s0 : Int32} {hp : zHP} {K : Option Value → zHP → Prop}  : zWP (d + 1) 241 809 [some (.ref 900), some (.ref 0), some (.ref 127), some (.ref 169), some (.int i4), none, none] [.int s0] hp K = (vp_in (i4 + (1 : Int32)) (hp.1 901 0).toNatClampNeg ∧ zWM d 205 [.ref 127, .int (hp.1 900 ((i4 + (1 : Int32))).toNatClampNeg)] hp (zK (d + 1) 241 819 [some (.ref 900), some (.ref 0), some (.ref 127), some (.ref 169), some (.int i4), none, none] [.int s0] K)) := by
  refine (Q_aload_n zm_241 (Or.inr (by decide)) D241_809 rfl).trans ?_
  refine (Q_aload_n zm_241 (Or.inr (by decide)) D241_810 rfl).trans ?_
  refine (Q_iload zm_241 (Or.inr (by decide)) D241_811 rfl).trans ?_
  refine (Q_iconst (v := 1) zm_241 (Or.inr (by decide)) D241_813 (by decide)).trans ?_
  refine (Q_iadd zm_241 (Or.inr (by decide)) D241_814).trans ?_
  refine (Q_sld zm_241 (Or.inr (by decide)) D241_815 rfl).trans ?_
  refine zand_c (fun h0_ => ?_)
  exact Q_callv (as := [.int (hp.1 900 ((i4 + (1 : Int32))).toNatClampNeg)]) (b := 127) (rest := [.int s0]) zm_241 (Or.inr (by decide)) D241_816 zc_11_95 rfl zk_127.1 (by decide) (by decide +kernel) (by decide) (by simp [zcat, Value.category]) zm_205 rfl
theorem bg241_840 {d : Nat} {i4 : Int32} {s0 : Int32} {hp : zHP} {K : Option Value → zHP → Prop}  : zWP (d + 1) 241 840 [some (.ref 900), some (.ref 0), some (.ref 127), some (.ref 169), some (.int i4), none, none] [.int s0] hp K = (vp_in (i4 + (1 : Int32)) (hp.1 901 0).toNatClampNeg ∧ (vp_in (i4 + (2 : Int32)) (hp.1 901 0).toNatClampNeg ∧ zWM d 206 [.ref 127, .int (hp.1 900 ((i4 + (1 : Int32))).toNatClampNeg), .int (hp.1 900 ((i4 + (2 : Int32))).toNatClampNeg)] hp (zK (d + 1) 241 856 [some (.ref 900), some (.ref 0), some (.ref 127), some (.ref 169), some (.int i4), none, none] [.int s0] K))) := by
  refine (Q_aload_n zm_241 (Or.inr (by decide)) D241_840 rfl).trans ?_
  refine (Q_aload_n zm_241 (Or.inr (by decide)) D241_841 rfl).trans ?_
  refine (Q_iload zm_241 (Or.inr (by decide)) D241_842 rfl).trans ?_
  refine (Q_iconst (v := 1) zm_241 (Or.inr (by decide)) D241_844 (by decide)).trans ?_
  refine (Q_iadd zm_241 (Or.inr (by decide)) D241_845).trans ?_
  refine (Q_sld zm_241 (Or.inr (by decide)) D241_846 rfl).trans ?_
  refine zand_c (fun h0_ => ?_)
  refine (Q_aload_n zm_241 (Or.inr (by decide)) D241_847 rfl).trans ?_
  refine (Q_iload zm_241 (Or.inr (by decide)) D241_848 rfl).trans ?_
  refine (Q_iconst (v := 2) zm_241 (Or.inr (by decide)) D241_850 (by decide)).trans ?_
  refine (Q_iadd zm_241 (Or.inr (by decide)) D241_851).trans ?_
  refine (Q_sld zm_241 (Or.inr (by decide)) D241_852 rfl).trans ?_
  refine zand_c (fun h1_ => ?_)
  exact Q_callv (as := [.int (hp.1 900 ((i4 + (1 : Int32))).toNatClampNeg), .int (hp.1 900 ((i4 + (2 : Int32))).toNatClampNeg)]) (b := 127) (rest := [.int s0]) zm_241 (Or.inr (by decide)) D241_853 zc_11_99 rfl zk_127.1 (by decide) (by decide +kernel) (by decide) (by simp [zcat, Value.category]) zm_206 rfl
theorem bg241_871 {d : Nat} {i4 : Int32} {s0 : Int32} {hp : zHP} {K : Option Value → zHP → Prop}  : zWP (d + 1) 241 871 [some (.ref 900), some (.ref 0), some (.ref 127), some (.ref 169), some (.int i4), none, none] [.int s0] hp K = (vp_in (i4 + (1 : Int32)) (hp.1 901 0).toNatClampNeg ∧ zWM d 208 [.ref 127, .int (hp.1 900 ((i4 + (1 : Int32))).toNatClampNeg)] hp (zK (d + 1) 241 881 [some (.ref 900), some (.ref 0), some (.ref 127), some (.ref 169), some (.int i4), none, none] [.int s0] K)) := by
  refine (Q_aload_n zm_241 (Or.inr (by decide)) D241_871 rfl).trans ?_
  refine (Q_aload_n zm_241 (Or.inr (by decide)) D241_872 rfl).trans ?_
  refine (Q_iload zm_241 (Or.inr (by decide)) D241_873 rfl).trans ?_
  refine (Q_iconst (v := 1) zm_241 (Or.inr (by decide)) D241_875 (by decide)).trans ?_
  refine (Q_iadd zm_241 (Or.inr (by decide)) D241_876).trans ?_
  refine (Q_sld zm_241 (Or.inr (by decide)) D241_877 rfl).trans ?_
  refine zand_c (fun h0_ => ?_)
  exact Q_callv (as := [.int (hp.1 900 ((i4 + (1 : Int32))).toNatClampNeg)]) (b := 127) (rest := [.int s0]) zm_241 (Or.inr (by decide)) D241_878 zc_11_103 rfl zk_127.1 (by decide) (by decide +kernel) (by decide) (by simp [zcat, Value.category]) zm_208 rfl
theorem bg241_902 {d : Nat} {i4 : Int32} {s0 : Int32} {hp : zHP} {K : Option Value → zHP → Prop}  : zWP (d + 1) 241 902 [some (.ref 900), some (.ref 0), some (.ref 127), some (.ref 169), some (.int i4), none, none] [.int s0] hp K = (vp_in (i4 + (1 : Int32)) (hp.1 901 0).toNatClampNeg ∧ (vp_in (i4 + (2 : Int32)) (hp.1 901 0).toNatClampNeg ∧ zWM d 210 [.ref 127, .int (hp.1 900 ((i4 + (1 : Int32))).toNatClampNeg), .int (hp.1 900 ((i4 + (2 : Int32))).toNatClampNeg)] hp (zK (d + 1) 241 918 [some (.ref 900), some (.ref 0), some (.ref 127), some (.ref 169), some (.int i4), none, none] [.int s0] K))) := by
  refine (Q_aload_n zm_241 (Or.inr (by decide)) D241_902 rfl).trans ?_
  refine (Q_aload_n zm_241 (Or.inr (by decide)) D241_903 rfl).trans ?_
  refine (Q_iload zm_241 (Or.inr (by decide)) D241_904 rfl).trans ?_
  refine (Q_iconst (v := 1) zm_241 (Or.inr (by decide)) D241_906 (by decide)).trans ?_
  refine (Q_iadd zm_241 (Or.inr (by decide)) D241_907).trans ?_
  refine (Q_sld zm_241 (Or.inr (by decide)) D241_908 rfl).trans ?_
  refine zand_c (fun h0_ => ?_)
  refine (Q_aload_n zm_241 (Or.inr (by decide)) D241_909 rfl).trans ?_
  refine (Q_iload zm_241 (Or.inr (by decide)) D241_910 rfl).trans ?_
  refine (Q_iconst (v := 2) zm_241 (Or.inr (by decide)) D241_912 (by decide)).trans ?_
  refine (Q_iadd zm_241 (Or.inr (by decide)) D241_913).trans ?_
  refine (Q_sld zm_241 (Or.inr (by decide)) D241_914 rfl).trans ?_
  refine zand_c (fun h1_ => ?_)
  exact Q_callv (as := [.int (hp.1 900 ((i4 + (1 : Int32))).toNatClampNeg), .int (hp.1 900 ((i4 + (2 : Int32))).toNatClampNeg)]) (b := 127) (rest := [.int s0]) zm_241 (Or.inr (by decide)) D241_915 zc_11_107 rfl zk_127.1 (by decide) (by decide +kernel) (by decide) (by simp [zcat, Value.category]) zm_210 rfl
theorem bg241_927 {d : Nat} {i4 : Int32} {s0 : Int32} {hp : zHP} {K : Option Value → zHP → Prop}  : zWP (d + 1) 241 927 [some (.ref 900), some (.ref 0), some (.ref 127), some (.ref 169), some (.int i4), none, none] [.int s0] hp K = zWM d 212 [.ref 127] hp (zK (d + 1) 241 931 [some (.ref 900), some (.ref 0), some (.ref 127), some (.ref 169), some (.int i4), none, none] [.int s0] K) := by
  refine (Q_aload_n zm_241 (Or.inr (by decide)) D241_927 rfl).trans ?_
  exact Q_callv (as := []) (b := 127) (rest := [.int s0]) zm_241 (Or.inr (by decide)) D241_928 zc_11_111 rfl zk_127.1 (by decide) (by decide +kernel) (by decide) (by simp [zcat, Value.category]) zm_212 rfl
theorem bg241_952 {d : Nat} {i4 : Int32} {s0 : Int32} {hp : zHP} {K : Option Value → zHP → Prop}  : zWP (d + 1) 241 952 [some (.ref 900), some (.ref 0), some (.ref 127), some (.ref 169), some (.int i4), none, none] [.int s0] hp K = (vp_in (i4 + (1 : Int32)) (hp.1 901 0).toNatClampNeg ∧ (vp_in (i4 + (2 : Int32)) (hp.1 901 0).toNatClampNeg ∧ zWM d 213 [.ref 127, .int (hp.1 900 ((i4 + (1 : Int32))).toNatClampNeg), .int (hp.1 900 ((i4 + (2 : Int32))).toNatClampNeg)] hp (zK (d + 1) 241 968 [some (.ref 900), some (.ref 0), some (.ref 127), some (.ref 169), some (.int i4), none, none] [.int s0] K))) := by
  refine (Q_aload_n zm_241 (Or.inr (by decide)) D241_952 rfl).trans ?_
  refine (Q_aload_n zm_241 (Or.inr (by decide)) D241_953 rfl).trans ?_
  refine (Q_iload zm_241 (Or.inr (by decide)) D241_954 rfl).trans ?_
  refine (Q_iconst (v := 1) zm_241 (Or.inr (by decide)) D241_956 (by decide)).trans ?_
  refine (Q_iadd zm_241 (Or.inr (by decide)) D241_957).trans ?_
  refine (Q_sld zm_241 (Or.inr (by decide)) D241_958 rfl).trans ?_
  refine zand_c (fun h0_ => ?_)
  refine (Q_aload_n zm_241 (Or.inr (by decide)) D241_959 rfl).trans ?_
  refine (Q_iload zm_241 (Or.inr (by decide)) D241_960 rfl).trans ?_
  refine (Q_iconst (v := 2) zm_241 (Or.inr (by decide)) D241_962 (by decide)).trans ?_
  refine (Q_iadd zm_241 (Or.inr (by decide)) D241_963).trans ?_
  refine (Q_sld zm_241 (Or.inr (by decide)) D241_964 rfl).trans ?_
  refine zand_c (fun h1_ => ?_)
  exact Q_callv (as := [.int (hp.1 900 ((i4 + (1 : Int32))).toNatClampNeg), .int (hp.1 900 ((i4 + (2 : Int32))).toNatClampNeg)]) (b := 127) (rest := [.int s0]) zm_241 (Or.inr (by decide)) D241_965 zc_11_115 rfl zk_127.1 (by decide) (by decide +kernel) (by decide) (by simp [zcat, Value.category]) zm_213 rfl
theorem bg241_983 {d : Nat} {i4 : Int32} {s0 : Int32} {hp : zHP} {K : Option Value → zHP → Prop}  : zWP (d + 1) 241 983 [some (.ref 900), some (.ref 0), some (.ref 127), some (.ref 169), some (.int i4), none, none] [.int s0] hp K = (vp_in (i4 + (1 : Int32)) (hp.1 901 0).toNatClampNeg ∧ zWM d 215 [.ref 127, .int (hp.1 900 ((i4 + (1 : Int32))).toNatClampNeg)] hp (zK (d + 1) 241 993 [some (.ref 900), some (.ref 0), some (.ref 127), some (.ref 169), some (.int i4), none, none] [.int s0] K)) := by
  refine (Q_aload_n zm_241 (Or.inr (by decide)) D241_983 rfl).trans ?_
  refine (Q_aload_n zm_241 (Or.inr (by decide)) D241_984 rfl).trans ?_
  refine (Q_iload zm_241 (Or.inr (by decide)) D241_985 rfl).trans ?_
  refine (Q_iconst (v := 1) zm_241 (Or.inr (by decide)) D241_987 (by decide)).trans ?_
  refine (Q_iadd zm_241 (Or.inr (by decide)) D241_988).trans ?_
  refine (Q_sld zm_241 (Or.inr (by decide)) D241_989 rfl).trans ?_
  refine zand_c (fun h0_ => ?_)
  exact Q_callv (as := [.int (hp.1 900 ((i4 + (1 : Int32))).toNatClampNeg)]) (b := 127) (rest := [.int s0]) zm_241 (Or.inr (by decide)) D241_990 zc_11_119 rfl zk_127.1 (by decide) (by decide +kernel) (by decide) (by simp [zcat, Value.category]) zm_215 rfl
theorem bg241_1014 {d : Nat} {i4 : Int32} {s0 : Int32} {hp : zHP} {K : Option Value → zHP → Prop}  : zWP (d + 1) 241 1014 [some (.ref 900), some (.ref 0), some (.ref 127), some (.ref 169), some (.int i4), none, none] [.int s0] hp K = (vp_in (i4 + (1 : Int32)) (hp.1 901 0).toNatClampNeg ∧ (vp_in (i4 + (2 : Int32)) (hp.1 901 0).toNatClampNeg ∧ zWM d 220 [.ref 127, .int (hp.1 900 ((i4 + (1 : Int32))).toNatClampNeg), .int (hp.1 900 ((i4 + (2 : Int32))).toNatClampNeg)] hp (zK (d + 1) 241 1030 [some (.ref 900), some (.ref 0), some (.ref 127), some (.ref 169), some (.int i4), none, none] [.int s0] K))) := by
  refine (Q_aload_n zm_241 (Or.inr (by decide)) D241_1014 rfl).trans ?_
  refine (Q_aload_n zm_241 (Or.inr (by decide)) D241_1015 rfl).trans ?_
  refine (Q_iload zm_241 (Or.inr (by decide)) D241_1016 rfl).trans ?_
  refine (Q_iconst (v := 1) zm_241 (Or.inr (by decide)) D241_1018 (by decide)).trans ?_
  refine (Q_iadd zm_241 (Or.inr (by decide)) D241_1019).trans ?_
  refine (Q_sld zm_241 (Or.inr (by decide)) D241_1020 rfl).trans ?_
  refine zand_c (fun h0_ => ?_)
  refine (Q_aload_n zm_241 (Or.inr (by decide)) D241_1021 rfl).trans ?_
  refine (Q_iload zm_241 (Or.inr (by decide)) D241_1022 rfl).trans ?_
  refine (Q_iconst (v := 2) zm_241 (Or.inr (by decide)) D241_1024 (by decide)).trans ?_
  refine (Q_iadd zm_241 (Or.inr (by decide)) D241_1025).trans ?_
  refine (Q_sld zm_241 (Or.inr (by decide)) D241_1026 rfl).trans ?_
  refine zand_c (fun h1_ => ?_)
  exact Q_callv (as := [.int (hp.1 900 ((i4 + (1 : Int32))).toNatClampNeg), .int (hp.1 900 ((i4 + (2 : Int32))).toNatClampNeg)]) (b := 127) (rest := [.int s0]) zm_241 (Or.inr (by decide)) D241_1027 zc_11_123 rfl zk_127.1 (by decide) (by decide +kernel) (by decide) (by simp [zcat, Value.category]) zm_220 rfl
theorem bg241_1057 {d : Nat} {i4 : Int32} {s0 : Int32} {hp : zHP} {K : Option Value → zHP → Prop}  : zWP (d + 1) 241 1057 [some (.ref 900), some (.ref 0), some (.ref 127), some (.ref 169), some (.int i4), none, none] [.int s0] hp K = (vp_in (i4 + (1 : Int32)) (hp.1 901 0).toNatClampNeg ∧ (vp_in (i4 + (2 : Int32)) (hp.1 901 0).toNatClampNeg ∧ (vp_in (i4 + (3 : Int32)) (hp.1 901 0).toNatClampNeg ∧ zWM d 221 [.ref 127, .int (hp.1 900 ((i4 + (1 : Int32))).toNatClampNeg), .int (hp.1 900 ((i4 + (2 : Int32))).toNatClampNeg), .int (hp.1 900 ((i4 + (3 : Int32))).toNatClampNeg)] hp (zK (d + 1) 241 1079 [some (.ref 900), some (.ref 0), some (.ref 127), some (.ref 169), some (.int i4), none, none] [.int s0] K)))) := by
  refine (Q_aload_n zm_241 (Or.inr (by decide)) D241_1057 rfl).trans ?_
  refine (Q_aload_n zm_241 (Or.inr (by decide)) D241_1058 rfl).trans ?_
  refine (Q_iload zm_241 (Or.inr (by decide)) D241_1059 rfl).trans ?_
  refine (Q_iconst (v := 1) zm_241 (Or.inr (by decide)) D241_1061 (by decide)).trans ?_
  refine (Q_iadd zm_241 (Or.inr (by decide)) D241_1062).trans ?_
  refine (Q_sld zm_241 (Or.inr (by decide)) D241_1063 rfl).trans ?_
  refine zand_c (fun h0_ => ?_)
  refine (Q_aload_n zm_241 (Or.inr (by decide)) D241_1064 rfl).trans ?_
  refine (Q_iload zm_241 (Or.inr (by decide)) D241_1065 rfl).trans ?_
  refine (Q_iconst (v := 2) zm_241 (Or.inr (by decide)) D241_1067 (by decide)).trans ?_
  refine (Q_iadd zm_241 (Or.inr (by decide)) D241_1068).trans ?_
  refine (Q_sld zm_241 (Or.inr (by decide)) D241_1069 rfl).trans ?_
  refine zand_c (fun h1_ => ?_)
  refine (Q_aload_n zm_241 (Or.inr (by decide)) D241_1070 rfl).trans ?_
  refine (Q_iload zm_241 (Or.inr (by decide)) D241_1071 rfl).trans ?_
  refine (Q_iconst (v := 3) zm_241 (Or.inr (by decide)) D241_1073 (by decide)).trans ?_
  refine (Q_iadd zm_241 (Or.inr (by decide)) D241_1074).trans ?_
  refine (Q_sld zm_241 (Or.inr (by decide)) D241_1075 rfl).trans ?_
  refine zand_c (fun h2_ => ?_)
  exact Q_callv (as := [.int (hp.1 900 ((i4 + (1 : Int32))).toNatClampNeg), .int (hp.1 900 ((i4 + (2 : Int32))).toNatClampNeg), .int (hp.1 900 ((i4 + (3 : Int32))).toNatClampNeg)]) (b := 127) (rest := [.int s0]) zm_241 (Or.inr (by decide)) D241_1076 zc_11_127 rfl zk_127.1 (by decide) (by decide +kernel) (by decide) (by simp [zcat, Value.category]) zm_221 rfl
theorem bg241_1100 {d : Nat} {i4 : Int32} {t0 : Int64} {hp : zHP} {K : Option Value → zHP → Prop}  : zWP (d + 1) 241 1100 [some (.ref 900), some (.ref 0), some (.ref 127), some (.ref 169), some (.int i4), none, none] [.long t0] hp K = (vp_in (i4 + (1 : Int32)) (hp.1 901 0).toNatClampNeg ∧ (vp_in (i4 + (2 : Int32)) (hp.1 901 0).toNatClampNeg ∧ zWM d 223 [.ref 127, .int (hp.1 900 ((i4 + (1 : Int32))).toNatClampNeg), .int (hp.1 900 ((i4 + (2 : Int32))).toNatClampNeg)] hp (zK (d + 1) 241 1116 [some (.ref 900), some (.ref 0), some (.ref 127), some (.ref 169), some (.int i4), none, none] [.long t0] K))) := by
  refine (Q_aload_n zm_241 (Or.inr (by decide)) D241_1100 rfl).trans ?_
  refine (Q_aload_n zm_241 (Or.inr (by decide)) D241_1101 rfl).trans ?_
  refine (Q_iload zm_241 (Or.inr (by decide)) D241_1102 rfl).trans ?_
  refine (Q_iconst (v := 1) zm_241 (Or.inr (by decide)) D241_1104 (by decide)).trans ?_
  refine (Q_iadd zm_241 (Or.inr (by decide)) D241_1105).trans ?_
  refine (Q_sld zm_241 (Or.inr (by decide)) D241_1106 rfl).trans ?_
  refine zand_c (fun h0_ => ?_)
  refine (Q_aload_n zm_241 (Or.inr (by decide)) D241_1107 rfl).trans ?_
  refine (Q_iload zm_241 (Or.inr (by decide)) D241_1108 rfl).trans ?_
  refine (Q_iconst (v := 2) zm_241 (Or.inr (by decide)) D241_1110 (by decide)).trans ?_
  refine (Q_iadd zm_241 (Or.inr (by decide)) D241_1111).trans ?_
  refine (Q_sld zm_241 (Or.inr (by decide)) D241_1112 rfl).trans ?_
  refine zand_c (fun h1_ => ?_)
  exact Q_callv (as := [.int (hp.1 900 ((i4 + (1 : Int32))).toNatClampNeg), .int (hp.1 900 ((i4 + (2 : Int32))).toNatClampNeg)]) (b := 127) (rest := [.long t0]) zm_241 (Or.inr (by decide)) D241_1113 zc_11_132 rfl zk_127.1 (by decide) (by decide +kernel) (by decide) (by simp [zcat, Value.category]) zm_223 rfl
theorem bg241_1164 {d : Nat} {i4 : Int32} {s0 : Int32} {hp : zHP} {K : Option Value → zHP → Prop}  : zWP (d + 1) 241 1164 [some (.ref 900), some (.ref 0), some (.ref 127), some (.ref 169), some (.int i4), none, none] [.int s0] hp K = (vp_in (i4 + (1 : Int32)) (hp.1 901 0).toNatClampNeg ∧ (vp_in (i4 + (2 : Int32)) (hp.1 901 0).toNatClampNeg ∧ (vp_in (i4 + (3 : Int32)) (hp.1 901 0).toNatClampNeg ∧ (vp_in (i4 + (4 : Int32)) (hp.1 901 0).toNatClampNeg ∧ (vp_in (i4 + (5 : Int32)) (hp.1 901 0).toNatClampNeg ∧ (if (hp.1 900 ((i4 + (5 : Int32))).toNatClampNeg) = 0 then zWM d 224 [.ref 127, .int (hp.1 900 ((i4 + (1 : Int32))).toNatClampNeg), .int (hp.1 900 ((i4 + (2 : Int32))).toNatClampNeg), .int (hp.1 900 ((i4 + (3 : Int32))).toNatClampNeg), .int (hp.1 900 ((i4 + (4 : Int32))).toNatClampNeg), .int (0 : Int32)] hp (zK (d + 1) 241 1206 [some (.ref 900), some (.ref 0), some (.ref 127), some (.ref 169), some (.int i4), none, none] [.int s0] K) else zWM d 224 [.ref 127, .int (hp.1 900 ((i4 + (1 : Int32))).toNatClampNeg), .int (hp.1 900 ((i4 + (2 : Int32))).toNatClampNeg), .int (hp.1 900 ((i4 + (3 : Int32))).toNatClampNeg), .int (hp.1 900 ((i4 + (4 : Int32))).toNatClampNeg), .int (1 : Int32)] hp (zK (d + 1) 241 1206 [some (.ref 900), some (.ref 0), some (.ref 127), some (.ref 169), some (.int i4), none, none] [.int s0] K))))))) := by
  refine (Q_aload_n zm_241 (Or.inr (by decide)) D241_1164 rfl).trans ?_
  refine (Q_aload_n zm_241 (Or.inr (by decide)) D241_1165 rfl).trans ?_
  refine (Q_iload zm_241 (Or.inr (by decide)) D241_1166 rfl).trans ?_
  refine (Q_iconst (v := 1) zm_241 (Or.inr (by decide)) D241_1168 (by decide)).trans ?_
  refine (Q_iadd zm_241 (Or.inr (by decide)) D241_1169).trans ?_
  refine (Q_sld zm_241 (Or.inr (by decide)) D241_1170 rfl).trans ?_
  refine zand_c (fun h0_ => ?_)
  refine (Q_aload_n zm_241 (Or.inr (by decide)) D241_1171 rfl).trans ?_
  refine (Q_iload zm_241 (Or.inr (by decide)) D241_1172 rfl).trans ?_
  refine (Q_iconst (v := 2) zm_241 (Or.inr (by decide)) D241_1174 (by decide)).trans ?_
  refine (Q_iadd zm_241 (Or.inr (by decide)) D241_1175).trans ?_
  refine (Q_sld zm_241 (Or.inr (by decide)) D241_1176 rfl).trans ?_
  refine zand_c (fun h1_ => ?_)
  refine (Q_aload_n zm_241 (Or.inr (by decide)) D241_1177 rfl).trans ?_
  refine (Q_iload zm_241 (Or.inr (by decide)) D241_1178 rfl).trans ?_
  refine (Q_iconst (v := 3) zm_241 (Or.inr (by decide)) D241_1180 (by decide)).trans ?_
  refine (Q_iadd zm_241 (Or.inr (by decide)) D241_1181).trans ?_
  refine (Q_sld zm_241 (Or.inr (by decide)) D241_1182 rfl).trans ?_
  refine zand_c (fun h2_ => ?_)
  refine (Q_aload_n zm_241 (Or.inr (by decide)) D241_1183 rfl).trans ?_
  refine (Q_iload zm_241 (Or.inr (by decide)) D241_1184 rfl).trans ?_
  refine (Q_iconst (v := 4) zm_241 (Or.inr (by decide)) D241_1186 (by decide)).trans ?_
  refine (Q_iadd zm_241 (Or.inr (by decide)) D241_1187).trans ?_
  refine (Q_sld zm_241 (Or.inr (by decide)) D241_1188 rfl).trans ?_
  refine zand_c (fun h3_ => ?_)
  refine (Q_aload_n zm_241 (Or.inr (by decide)) D241_1189 rfl).trans ?_
  refine (Q_iload zm_241 (Or.inr (by decide)) D241_1190 rfl).trans ?_
  refine (Q_iconst (v := 5) zm_241 (Or.inr (by decide)) D241_1192 (by decide)).trans ?_
  refine (Q_iadd zm_241 (Or.inr (by decide)) D241_1193).trans ?_
  refine (Q_sld zm_241 (Or.inr (by decide)) D241_1194 rfl).trans ?_
  refine zand_c (fun h4_ => ?_)
  refine (Q_if_eq (tgt := 1202) zm_241 (Or.inr (by decide)) D241_1195 (by decide)).trans ?_
  refine zif_c (fun h5_ => ?_) (fun h5_ => ?_)
  · refine (Q_iconst (v := 0) zm_241 (Or.inr (by decide)) D241_1202 (by decide)).trans ?_
    exact Q_callv (as := [.int (hp.1 900 ((i4 + (1 : Int32))).toNatClampNeg), .int (hp.1 900 ((i4 + (2 : Int32))).toNatClampNeg), .int (hp.1 900 ((i4 + (3 : Int32))).toNatClampNeg), .int (hp.1 900 ((i4 + (4 : Int32))).toNatClampNeg), .int (0 : Int32)]) (b := 127) (rest := [.int s0]) zm_241 (Or.inr (by decide)) D241_1203 zc_11_137 rfl zk_127.1 (by decide) (by decide +kernel) (by decide) (by simp [zcat, Value.category]) zm_224 rfl
  · refine (Q_iconst (v := 1) zm_241 (Or.inr (by decide)) D241_1198 (by decide)).trans ?_
    refine (Q_goto (tgt := 1203) zm_241 (Or.inr (by decide)) D241_1199 (by decide)).trans ?_
    exact Q_callv (as := [.int (hp.1 900 ((i4 + (1 : Int32))).toNatClampNeg), .int (hp.1 900 ((i4 + (2 : Int32))).toNatClampNeg), .int (hp.1 900 ((i4 + (3 : Int32))).toNatClampNeg), .int (hp.1 900 ((i4 + (4 : Int32))).toNatClampNeg), .int (1 : Int32)]) (b := 127) (rest := [.int s0]) zm_241 (Or.inr (by decide)) D241_1203 zc_11_137 rfl zk_127.1 (by decide) (by decide +kernel) (by decide) (by simp [zcat, Value.category]) zm_224 rfl
theorem bg241_1221 {d : Nat} {i4 : Int32} {s0 : Int32} {hp : zHP} {K : Option Value → zHP → Prop}  : zWP (d + 1) 241 1221 [some (.ref 900), some (.ref 0), some (.ref 127), some (.ref 169), some (.int i4), none, none] [.int s0] hp K = (vp_in (i4 + (1 : Int32)) (hp.1 901 0).toNatClampNeg ∧ zWM d 225 [.ref 127, .int (hp.1 900 ((i4 + (1 : Int32))).toNatClampNeg)] hp (zK (d + 1) 241 1231 [some (.ref 900), some (.ref 0), some (.ref 127), some (.ref 169), some (.int i4), none, none] [.int s0] K)) := by
  refine (Q_aload_n zm_241 (Or.inr (by decide)) D241_1221 rfl).trans ?_
  refine (Q_aload_n zm_241 (Or.inr (by decide)) D241_1222 rfl).trans ?_
  refine (Q_iload zm_241 (Or.inr (by decide)) D241_1223 rfl).trans ?_
  refine (Q_iconst (v := 1) zm_241 (Or.inr (by decide)) D241_1225 (by decide)).trans ?_
  refine (Q_iadd zm_241 (Or.inr (by decide)) D241_1226).trans ?_
  refine (Q_sld zm_241 (Or.inr (by decide)) D241_1227 rfl).trans ?_
  refine zand_c (fun h0_ => ?_)
  exact Q_callv (as := [.int (hp.1 900 ((i4 + (1 : Int32))).toNatClampNeg)]) (b := 127) (rest := [.int s0]) zm_241 (Or.inr (by decide)) D241_1228 zc_11_141 rfl zk_127.1 (by decide) (by decide +kernel) (by decide) (by simp [zcat, Value.category]) zm_225 rfl
theorem bg241_1246 {d : Nat} {i4 : Int32} {s0 : Int32} {hp : zHP} {K : Option Value → zHP → Prop}  : zWP (d + 1) 241 1246 [some (.ref 900), some (.ref 0), some (.ref 127), some (.ref 169), some (.int i4), none, none] [.int s0] hp K = (vp_in (i4 + (1 : Int32)) (hp.1 901 0).toNatClampNeg ∧ zWM d 226 [.ref 127, .int (hp.1 900 ((i4 + (1 : Int32))).toNatClampNeg)] hp (zK (d + 1) 241 1256 [some (.ref 900), some (.ref 0), some (.ref 127), some (.ref 169), some (.int i4), none, none] [.int s0] K)) := by
  refine (Q_aload_n zm_241 (Or.inr (by decide)) D241_1246 rfl).trans ?_
  refine (Q_aload_n zm_241 (Or.inr (by decide)) D241_1247 rfl).trans ?_
  refine (Q_iload zm_241 (Or.inr (by decide)) D241_1248 rfl).trans ?_
  refine (Q_iconst (v := 1) zm_241 (Or.inr (by decide)) D241_1250 (by decide)).trans ?_
  refine (Q_iadd zm_241 (Or.inr (by decide)) D241_1251).trans ?_
  refine (Q_sld zm_241 (Or.inr (by decide)) D241_1252 rfl).trans ?_
  refine zand_c (fun h0_ => ?_)
  exact Q_callv (as := [.int (hp.1 900 ((i4 + (1 : Int32))).toNatClampNeg)]) (b := 127) (rest := [.int s0]) zm_241 (Or.inr (by decide)) D241_1253 zc_11_146 rfl zk_127.1 (by decide) (by decide +kernel) (by decide) (by simp [zcat, Value.category]) zm_226 rfl
theorem bg241_1265 {d : Nat} {i4 : Int32} {s0 : Int32} {hp : zHP} {K : Option Value → zHP → Prop}  : zWP (d + 1) 241 1265 [some (.ref 900), some (.ref 0), some (.ref 127), some (.ref 169), some (.int i4), none, none] [.int s0] hp K = zWM d 231 [.ref 127] hp (zK (d + 1) 241 1269 [some (.ref 900), some (.ref 0), some (.ref 127), some (.ref 169), some (.int i4), none, none] [.int s0] K) := by
  refine (Q_aload_n zm_241 (Or.inr (by decide)) D241_1265 rfl).trans ?_
  exact Q_callv (as := []) (b := 127) (rest := [.int s0]) zm_241 (Or.inr (by decide)) D241_1266 zc_11_150 rfl zk_127.1 (by decide) (by decide +kernel) (by decide) (by simp [zcat, Value.category]) zm_231 rfl
theorem bg241_1290 {d : Nat} {i4 : Int32} {s0 : Int32} {hp : zHP} {K : Option Value → zHP → Prop}  : zWP (d + 1) 241 1290 [some (.ref 900), some (.ref 0), some (.ref 127), some (.ref 169), some (.int i4), none, none] [.int s0] hp K = (vp_in (i4 + (1 : Int32)) (hp.1 901 0).toNatClampNeg ∧ (vp_in (i4 + (2 : Int32)) (hp.1 901 0).toNatClampNeg ∧ zWM d 232 [.ref 127, .int (hp.1 900 ((i4 + (1 : Int32))).toNatClampNeg), .int (hp.1 900 ((i4 + (2 : Int32))).toNatClampNeg)] hp (zK (d + 1) 241 1306 [some (.ref 900), some (.ref 0), some (.ref 127), some (.ref 169), some (.int i4), none, none] [.int s0] K))) := by
  refine (Q_aload_n zm_241 (Or.inr (by decide)) D241_1290 rfl).trans ?_
  refine (Q_aload_n zm_241 (Or.inr (by decide)) D241_1291 rfl).trans ?_
  refine (Q_iload zm_241 (Or.inr (by decide)) D241_1292 rfl).trans ?_
  refine (Q_iconst (v := 1) zm_241 (Or.inr (by decide)) D241_1294 (by decide)).trans ?_
  refine (Q_iadd zm_241 (Or.inr (by decide)) D241_1295).trans ?_
  refine (Q_sld zm_241 (Or.inr (by decide)) D241_1296 rfl).trans ?_
  refine zand_c (fun h0_ => ?_)
  refine (Q_aload_n zm_241 (Or.inr (by decide)) D241_1297 rfl).trans ?_
  refine (Q_iload zm_241 (Or.inr (by decide)) D241_1298 rfl).trans ?_
  refine (Q_iconst (v := 2) zm_241 (Or.inr (by decide)) D241_1300 (by decide)).trans ?_
  refine (Q_iadd zm_241 (Or.inr (by decide)) D241_1301).trans ?_
  refine (Q_sld zm_241 (Or.inr (by decide)) D241_1302 rfl).trans ?_
  refine zand_c (fun h1_ => ?_)
  exact Q_callv (as := [.int (hp.1 900 ((i4 + (1 : Int32))).toNatClampNeg), .int (hp.1 900 ((i4 + (2 : Int32))).toNatClampNeg)]) (b := 127) (rest := [.int s0]) zm_241 (Or.inr (by decide)) D241_1303 zc_11_154 rfl zk_127.1 (by decide) (by decide +kernel) (by decide) (by simp [zcat, Value.category]) zm_232 rfl
theorem bg241_1333 {d : Nat} {i4 : Int32} {s0 : Int32} {hp : zHP} {K : Option Value → zHP → Prop}  : zWP (d + 1) 241 1333 [some (.ref 900), some (.ref 0), some (.ref 127), some (.ref 169), some (.int i4), none, none] [.int s0] hp K = (vp_in (i4 + (1 : Int32)) (hp.1 901 0).toNatClampNeg ∧ (vp_in (i4 + (2 : Int32)) (hp.1 901 0).toNatClampNeg ∧ (vp_in (i4 + (3 : Int32)) (hp.1 901 0).toNatClampNeg ∧ zWM d 233 [.ref 127, .int (hp.1 900 ((i4 + (1 : Int32))).toNatClampNeg), .int (hp.1 900 ((i4 + (2 : Int32))).toNatClampNeg), .int (hp.1 900 ((i4 + (3 : Int32))).toNatClampNeg)] hp (zK (d + 1) 241 1355 [some (.ref 900), some (.ref 0), some (.ref 127), some (.ref 169), some (.int i4), none, none] [.int s0] K)))) := by
  refine (Q_aload_n zm_241 (Or.inr (by decide)) D241_1333 rfl).trans ?_
  refine (Q_aload_n zm_241 (Or.inr (by decide)) D241_1334 rfl).trans ?_
  refine (Q_iload zm_241 (Or.inr (by decide)) D241_1335 rfl).trans ?_
  refine (Q_iconst (v := 1) zm_241 (Or.inr (by decide)) D241_1337 (by decide)).trans ?_
  refine (Q_iadd zm_241 (Or.inr (by decide)) D241_1338).trans ?_
  refine (Q_sld zm_241 (Or.inr (by decide)) D241_1339 rfl).trans ?_
  refine zand_c (fun h0_ => ?_)
  refine (Q_aload_n zm_241 (Or.inr (by decide)) D241_1340 rfl).trans ?_
  refine (Q_iload zm_241 (Or.inr (by decide)) D241_1341 rfl).trans ?_
  refine (Q_iconst (v := 2) zm_241 (Or.inr (by decide)) D241_1343 (by decide)).trans ?_
  refine (Q_iadd zm_241 (Or.inr (by decide)) D241_1344).trans ?_
  refine (Q_sld zm_241 (Or.inr (by decide)) D241_1345 rfl).trans ?_
  refine zand_c (fun h1_ => ?_)
  refine (Q_aload_n zm_241 (Or.inr (by decide)) D241_1346 rfl).trans ?_
  refine (Q_iload zm_241 (Or.inr (by decide)) D241_1347 rfl).trans ?_
  refine (Q_iconst (v := 3) zm_241 (Or.inr (by decide)) D241_1349 (by decide)).trans ?_
  refine (Q_iadd zm_241 (Or.inr (by decide)) D241_1350).trans ?_
  refine (Q_sld zm_241 (Or.inr (by decide)) D241_1351 rfl).trans ?_
  refine zand_c (fun h2_ => ?_)
  exact Q_callv (as := [.int (hp.1 900 ((i4 + (1 : Int32))).toNatClampNeg), .int (hp.1 900 ((i4 + (2 : Int32))).toNatClampNeg), .int (hp.1 900 ((i4 + (3 : Int32))).toNatClampNeg)]) (b := 127) (rest := [.int s0]) zm_241 (Or.inr (by decide)) D241_1352 zc_11_158 rfl zk_127.1 (by decide) (by decide +kernel) (by decide) (by simp [zcat, Value.category]) zm_233 rfl
theorem bg241_1382 {d : Nat} {i4 : Int32} {s0 : Int32} {hp : zHP} {K : Option Value → zHP → Prop}  : zWP (d + 1) 241 1382 [some (.ref 900), some (.ref 0), some (.ref 127), some (.ref 169), some (.int i4), none, none] [.int s0] hp K = (vp_in (i4 + (1 : Int32)) (hp.1 901 0).toNatClampNeg ∧ (vp_in (i4 + (2 : Int32)) (hp.1 901 0).toNatClampNeg ∧ (vp_in (i4 + (3 : Int32)) (hp.1 901 0).toNatClampNeg ∧ zWM d 234 [.ref 127, .int (hp.1 900 ((i4 + (1 : Int32))).toNatClampNeg), .int (hp.1 900 ((i4 + (2 : Int32))).toNatClampNeg), .int (hp.1 900 ((i4 + (3 : Int32))).toNatClampNeg)] hp (zK (d + 1) 241 1404 [some (.ref 900), some (.ref 0), some (.ref 127), some (.ref 169), some (.int i4), none, none] [.int s0] K)))) := by
  refine (Q_aload_n zm_241 (Or.inr (by decide)) D241_1382 rfl).trans ?_
  refine (Q_aload_n zm_241 (Or.inr (by decide)) D241_1383 rfl).trans ?_
  refine (Q_iload zm_241 (Or.inr (by decide)) D241_1384 rfl).trans ?_
  refine (Q_iconst (v := 1) zm_241 (Or.inr (by decide)) D241_1386 (by decide)).trans ?_
  refine (Q_iadd zm_241 (Or.inr (by decide)) D241_1387).trans ?_
  refine (Q_sld zm_241 (Or.inr (by decide)) D241_1388 rfl).trans ?_
  refine zand_c (fun h0_ => ?_)
  refine (Q_aload_n zm_241 (Or.inr (by decide)) D241_1389 rfl).trans ?_
  refine (Q_iload zm_241 (Or.inr (by decide)) D241_1390 rfl).trans ?_
  refine (Q_iconst (v := 2) zm_241 (Or.inr (by decide)) D241_1392 (by decide)).trans ?_
  refine (Q_iadd zm_241 (Or.inr (by decide)) D241_1393).trans ?_
  refine (Q_sld zm_241 (Or.inr (by decide)) D241_1394 rfl).trans ?_
  refine zand_c (fun h1_ => ?_)
  refine (Q_aload_n zm_241 (Or.inr (by decide)) D241_1395 rfl).trans ?_
  refine (Q_iload zm_241 (Or.inr (by decide)) D241_1396 rfl).trans ?_
  refine (Q_iconst (v := 3) zm_241 (Or.inr (by decide)) D241_1398 (by decide)).trans ?_
  refine (Q_iadd zm_241 (Or.inr (by decide)) D241_1399).trans ?_
  refine (Q_sld zm_241 (Or.inr (by decide)) D241_1400 rfl).trans ?_
  refine zand_c (fun h2_ => ?_)
  exact Q_callv (as := [.int (hp.1 900 ((i4 + (1 : Int32))).toNatClampNeg), .int (hp.1 900 ((i4 + (2 : Int32))).toNatClampNeg), .int (hp.1 900 ((i4 + (3 : Int32))).toNatClampNeg)]) (b := 127) (rest := [.int s0]) zm_241 (Or.inr (by decide)) D241_1401 zc_11_162 rfl zk_127.1 (by decide) (by decide +kernel) (by decide) (by simp [zcat, Value.category]) zm_234 rfl
theorem bg241_1413 {d : Nat} {i4 : Int32} {s0 : Int32} {hp : zHP} {K : Option Value → zHP → Prop}  : zWP (d + 1) 241 1413 [some (.ref 900), some (.ref 0), some (.ref 127), some (.ref 169), some (.int i4), none, none] [.int s0] hp K = zWM d 235 [.ref 127] hp (zK (d + 1) 241 1417 [some (.ref 900), some (.ref 0), some (.ref 127), some (.ref 169), some (.int i4), none, none] [.int s0] K) := by
  refine (Q_aload_n zm_241 (Or.inr (by decide)) D241_1413 rfl).trans ?_
  exact Q_callv (as := []) (b := 127) (rest := [.int s0]) zm_241 (Or.inr (by decide)) D241_1414 zc_11_166 rfl zk_127.1 (by decide) (by decide +kernel) (by decide) (by simp [zcat, Value.category]) zm_235 rfl
theorem bg241_1426 {d : Nat} {i4 : Int32} {s0 : Int32} {hp : zHP} {K : Option Value → zHP → Prop}  : zWP (d + 1) 241 1426 [some (.ref 900), some (.ref 0), some (.ref 127), some (.ref 169), some (.int i4), none, none] [.int s0] hp K = zWM d 236 [.ref 127] hp (zK (d + 1) 241 1430 [some (.ref 900), some (.ref 0), some (.ref 127), some (.ref 169), some (.int i4), none, none] [.int s0] K) := by
  refine (Q_aload_n zm_241 (Or.inr (by decide)) D241_1426 rfl).trans ?_
  exact Q_callv (as := []) (b := 127) (rest := [.int s0]) zm_241 (Or.inr (by decide)) D241_1427 zc_11_170 rfl zk_127.1 (by decide) (by decide +kernel) (by decide) (by simp [zcat, Value.category]) zm_236 rfl
theorem bg241_1439 {d : Nat} {i4 : Int32} {s0 : Int32} {hp : zHP} {K : Option Value → zHP → Prop}  : zWP (d + 1) 241 1439 [some (.ref 900), some (.ref 0), some (.ref 127), some (.ref 169), some (.int i4), none, none] [.int s0] hp K = zWM d 237 [.ref 127] hp (zK (d + 1) 241 1443 [some (.ref 900), some (.ref 0), some (.ref 127), some (.ref 169), some (.int i4), none, none] [.int s0] K) := by
  refine (Q_aload_n zm_241 (Or.inr (by decide)) D241_1439 rfl).trans ?_
  exact Q_callv (as := []) (b := 127) (rest := [.int s0]) zm_241 (Or.inr (by decide)) D241_1440 zc_11_174 rfl zk_127.1 (by decide) (by decide +kernel) (by decide) (by simp [zcat, Value.category]) zm_237 rfl
theorem bg241_1458 {d : Nat} {i4 : Int32} {s0 : Int32} {hp : zHP} {K : Option Value → zHP → Prop}  : zWP (d + 1) 241 1458 [some (.ref 900), some (.ref 0), some (.ref 127), some (.ref 169), some (.int i4), none, none] [.int s0] hp K = (vp_in (i4 + (1 : Int32)) (hp.1 901 0).toNatClampNeg ∧ zWM d 239 [.ref 127, .int (hp.1 900 ((i4 + (1 : Int32))).toNatClampNeg)] hp (zK (d + 1) 241 1468 [some (.ref 900), some (.ref 0), some (.ref 127), some (.ref 169), some (.int i4), none, none] [.int s0] K)) := by
  refine (Q_aload_n zm_241 (Or.inr (by decide)) D241_1458 rfl).trans ?_
  refine (Q_aload_n zm_241 (Or.inr (by decide)) D241_1459 rfl).trans ?_
  refine (Q_iload zm_241 (Or.inr (by decide)) D241_1460 rfl).trans ?_
  refine (Q_iconst (v := 1) zm_241 (Or.inr (by decide)) D241_1462 (by decide)).trans ?_
  refine (Q_iadd zm_241 (Or.inr (by decide)) D241_1463).trans ?_
  refine (Q_sld zm_241 (Or.inr (by decide)) D241_1464 rfl).trans ?_
  refine zand_c (fun h0_ => ?_)
  exact Q_callv (as := [.int (hp.1 900 ((i4 + (1 : Int32))).toNatClampNeg)]) (b := 127) (rest := [.int s0]) zm_241 (Or.inr (by decide)) D241_1465 zc_11_178 rfl zk_127.1 (by decide) (by decide +kernel) (by decide) (by simp [zcat, Value.category]) zm_239 rfl
section ZP
variable {d pl dr i L : Nat} {cp cw rp : Option Nat} {ia : Nat → Nat → Int32} {la : Nat → Nat → Int64} {KL : Option Value → zHP → Prop}
theorem zLen (hL : L ≤ 384) (hi : i ≤ L) : (nI L - 6 < nI i) ↔ L < i + 6 := by
  by_cases c : 6 ≤ L
  · rw [show (6 : Int32) = nI 6 from rfl, pk_sub c]
    constructor
    · intro h
      by_cases q : L < i + 6
      · exact q
      · exact absurd h (nI_nlt (by omega) (by omega))
    · intro h; exact nI_lt (by omega) (by omega)
  · have : ∀ L, L < 6 → nI L - 6 < 0 := by decide +kernel
    exact ⟨fun _ => by omega, fun _ => Int32.lt_of_lt_of_le (this L (by omega)) (nI_pos' (by omega))⟩
def yXs (ia : Nat → Nat → Int32) (i : Nat) (KL : Option Value → zHP → Prop) : Prop := ∀ ja lb pl dr cp cw rp, zInv pl dr ja lb → ja 900 = ia 900 → ja 901 = ia 901 → KL (some (.float (nI i).toUInt32)) (ja, lb, zRA pl dr cp cw rp)
abbrev yLs (i : Nat) : zLs := [some (.ref 900), some (.ref 0), some (.ref 127), some (.ref 169), some (.int (nI i)), none, none]
theorem z1473 {hp : zHP} : zWP d 241 1473 (yLs i) [] hp KL = KL (some (.float (nI i).toUInt32)) hp := zE_exit zm_241 rfl
theorem z348 {hp : zHP} : zWP d 241 348 (yLs i) [] hp KL = KL (some (.long (nI i).toInt64)) hp := zE_exit zm_241 rfl
theorem L_feed (hI : zInv pl dr ia la) (eL : ia 901 0 = nI L) (hL : L ≤ 384) (hi : i + 6 ≤ L) (hX : yXs ia i KL) : zWM (d + 400) 76 [.ref 0, .int (ia 900 (i + 1)), .int (ia 900 (i + 2)), .int (ia 900 (i + 3)), .int (ia 900 (i + 4)), .int (ia 900 (i + 5))] (ia, la, zRA pl dr cp cw rp) (zK (d + 401) 241 234 (yLs i) [] KL) := by
  refine zTwo (km := 129) (pc2 := 268) (asM := [.ref 127, .int (ia 900 (i + 1)), .int (ia 900 (i + 2)), .int (ia 900 (i + 3)), .int (ia 900 (i + 4)), .int (ia 900 (i + 5))]) (ty := zIsI) (by decide) zm_76 (by decide) zm_129 zIsI_t zIsI_t (fun Kc Km hc hm => T_feed (d := d) (x1 := ia 900 (i + 1)) (x2 := ia 900 (i + 2)) (x3 := ia 900 (i + 3)) (x4 := ia 900 (i + 4)) (x5 := ia 900 (i + 5)) hI hc hm) (fun x hp hx h9 h => ?_) (fun x ja lb pl dr cp cw rp hx hi h9 h91 => ?_)
  · obtain ⟨s0, rfl⟩ := hx
    have e9 : ∀ k, hp.1 900 k = ia 900 k := fun k => by rw [h9.1]
    have eL2 : (hp.1 901 0).toNatClampNeg = L := by rw [h9.2]; show (ia 901 0).toNatClampNeg = L; rw [eL]; exact zcln (by omega)
    rw [bg241_234, eL2, show nI i + 1 = nI (i + 1) from ns i, show nI i + 2 = nI (i + 2) from by rw [show (2 : Int32) = nI 2 from rfl, nI_add], show nI i + 3 = nI (i + 3) from by rw [show (3 : Int32) = nI 3 from rfl, nI_add], show nI i + 4 = nI (i + 4) from by rw [show (4 : Int32) = nI 4 from rfl, nI_add], show nI i + 5 = nI (i + 5) from by rw [show (5 : Int32) = nI 5 from rfl, nI_add], zg (by omega) (by omega), zg (by omega) (by omega), zg (by omega) (by omega), zg (by omega) (by omega), zg (by omega) (by omega), zcln (show i + 1 < 100000 by omega), zcln (show i + 2 < 100000 by omega), zcln (show i + 3 < 100000 by omega), zcln (show i + 4 < 100000 by omega), zcln (show i + 5 < 100000 by omega), e9 (i + 1), e9 (i + 2), e9 (i + 3), e9 (i + 4), e9 (i + 5)]
    exact h
  · obtain ⟨s0, rfl⟩ := hx
    rw [b241_268, if_pos rfl, z1473]
    exact hX _ _ _ _ _ _ _ hi h9 h91
theorem L_text (hI : zInv pl dr ia la) (eL : ia 901 0 = nI L) (hL : L ≤ 384) (hi : i + 6 ≤ L) (hX : yXs ia i KL) : zWM (d + 400) 77 [.ref 0, .int (ia 900 (i + 1))] (ia, la, zRA pl dr cp cw rp) (zK (d + 401) 241 283 (yLs i) [] KL) := by
  refine zTwo (km := 161) (pc2 := 293) (asM := [.ref 127, .int (ia 900 (i + 1))]) (ty := zIsI) (by decide) zm_77 (by decide) zm_161 zIsI_t zIsI_t (fun Kc Km hc hm => T_text (d := d) (x1 := ia 900 (i + 1)) hI hc hm) (fun x hp hx h9 h => ?_) (fun x ja lb pl dr cp cw rp hx hi h9 h91 => ?_)
  · obtain ⟨s0, rfl⟩ := hx
    have e9 : ∀ k, hp.1 900 k = ia 900 k := fun k => by rw [h9.1]
    have eL2 : (hp.1 901 0).toNatClampNeg = L := by rw [h9.2]; show (ia 901 0).toNatClampNeg = L; rw [eL]; exact zcln (by omega)
    rw [bg241_283, eL2, show nI i + 1 = nI (i + 1) from ns i, zg (by omega) (by omega), zcln (show i + 1 < 100000 by omega), e9 (i + 1)]
    exact h
  · obtain ⟨s0, rfl⟩ := hx
    rw [b241_293, if_pos rfl, z1473]
    exact hX _ _ _ _ _ _ _ hi h9 h91
theorem L_fault (hI : zInv pl dr ia la) (eL : ia 901 0 = nI L) (hL : L ≤ 384) (hi : i + 6 ≤ L) (hX : yXs ia i KL) : zWM (d + 400) 78 [.ref 0, .int (ia 900 (i + 1))] (ia, la, zRA pl dr cp cw rp) (zK (d + 401) 241 308 (yLs i) [] KL) := by
  refine zTwo (km := 162) (pc2 := 318) (asM := [.ref 127, .int (ia 900 (i + 1))]) (ty := zIsI) (by decide) zm_78 (by decide) zm_162 zIsI_t zIsI_t (fun Kc Km hc hm => T_fault (d := d) (x1 := ia 900 (i + 1)) hI hc hm) (fun x hp hx h9 h => ?_) (fun x ja lb pl dr cp cw rp hx hi h9 h91 => ?_)
  · obtain ⟨s0, rfl⟩ := hx
    have e9 : ∀ k, hp.1 900 k = ia 900 k := fun k => by rw [h9.1]
    have eL2 : (hp.1 901 0).toNatClampNeg = L := by rw [h9.2]; show (ia 901 0).toNatClampNeg = L; rw [eL]; exact zcln (by omega)
    rw [bg241_308, eL2, show nI i + 1 = nI (i + 1) from ns i, zg (by omega) (by omega), zcln (show i + 1 < 100000 by omega), e9 (i + 1)]
    exact h
  · obtain ⟨s0, rfl⟩ := hx
    rw [b241_318, if_pos rfl, z1473]
    exact hX _ _ _ _ _ _ _ hi h9 h91
theorem L_named (hI : zInv pl dr ia la) (eL : ia 901 0 = nI L) (hL : L ≤ 384) (hi : i + 6 ≤ L) (hX : yXs ia i KL) : zWM (d + 400) 79 [.ref 0, .int (ia 900 (i + 1))] (ia, la, zRA pl dr cp cw rp) (zK (d + 401) 241 333 (yLs i) [] KL) := by
  refine zTwo (km := 163) (pc2 := 343) (asM := [.ref 127, .int (ia 900 (i + 1))]) (ty := zIsI) (by decide) zm_79 (by decide) zm_163 zIsI_t zIsI_t (fun Kc Km hc hm => T_named (d := d) (x1 := ia 900 (i + 1)) hI hc hm) (fun x hp hx h9 h => ?_) (fun x ja lb pl dr cp cw rp hx hi h9 h91 => ?_)
  · obtain ⟨s0, rfl⟩ := hx
    have e9 : ∀ k, hp.1 900 k = ia 900 k := fun k => by rw [h9.1]
    have eL2 : (hp.1 901 0).toNatClampNeg = L := by rw [h9.2]; show (ia 901 0).toNatClampNeg = L; rw [eL]; exact zcln (by omega)
    rw [bg241_333, eL2, show nI i + 1 = nI (i + 1) from ns i, zg (by omega) (by omega), zcln (show i + 1 < 100000 by omega), e9 (i + 1)]
    exact h
  · obtain ⟨s0, rfl⟩ := hx
    rw [b241_343, if_pos rfl, z1473]
    exact hX _ _ _ _ _ _ _ hi h9 h91
theorem L_man (hI : zInv pl dr ia la) (eL : ia 901 0 = nI L) (hL : L ≤ 384) (hi : i + 6 ≤ L) (hX : yXs ia i KL) : zWM (d + 400) 82 [.ref 0, .int (ia 900 (i + 1)), .int (ia 900 (i + 2))] (ia, la, zRA pl dr cp cw rp) (zK (d + 401) 241 432 (yLs i) [] KL) := by
  refine zTwo (km := 193) (pc2 := 448) (asM := [.ref 127, .int (ia 900 (i + 1)), .int (ia 900 (i + 2))]) (ty := zIsI) (by decide) zm_82 (by decide) zm_193 zIsI_t zIsI_t (fun Kc Km hc hm => T_man (d := d) (x1 := ia 900 (i + 1)) (x2 := ia 900 (i + 2)) hI hc hm) (fun x hp hx h9 h => ?_) (fun x ja lb pl dr cp cw rp hx hi h9 h91 => ?_)
  · obtain ⟨s0, rfl⟩ := hx
    have e9 : ∀ k, hp.1 900 k = ia 900 k := fun k => by rw [h9.1]
    have eL2 : (hp.1 901 0).toNatClampNeg = L := by rw [h9.2]; show (ia 901 0).toNatClampNeg = L; rw [eL]; exact zcln (by omega)
    rw [bg241_432, eL2, show nI i + 1 = nI (i + 1) from ns i, show nI i + 2 = nI (i + 2) from by rw [show (2 : Int32) = nI 2 from rfl, nI_add], zg (by omega) (by omega), zg (by omega) (by omega), zcln (show i + 1 < 100000 by omega), zcln (show i + 2 < 100000 by omega), e9 (i + 1), e9 (i + 2)]
    exact h
  · obtain ⟨s0, rfl⟩ := hx
    rw [b241_448, if_pos rfl, z1473]
    exact hX _ _ _ _ _ _ _ hi h9 h91
theorem L_letter (hI : zInv pl dr ia la) (eL : ia 901 0 = nI L) (hL : L ≤ 384) (hi : i + 6 ≤ L) (hX : yXs ia i KL) : zWM (d + 400) 85 [.ref 0, .int (ia 900 (i + 1)), .int (ia 900 (i + 2))] (ia, la, zRA pl dr cp cw rp) (zK (d + 401) 241 469 (yLs i) [] KL) := by
  refine zTwo (km := 194) (pc2 := 485) (asM := [.ref 127, .int (ia 900 (i + 1)), .int (ia 900 (i + 2))]) (ty := zIsI) (by decide) zm_85 (by decide) zm_194 zIsI_t zIsI_t (fun Kc Km hc hm => T_letter (d := d) (x1 := ia 900 (i + 1)) (x2 := ia 900 (i + 2)) hI hc hm) (fun x hp hx h9 h => ?_) (fun x ja lb pl dr cp cw rp hx hi h9 h91 => ?_)
  · obtain ⟨s0, rfl⟩ := hx
    have e9 : ∀ k, hp.1 900 k = ia 900 k := fun k => by rw [h9.1]
    have eL2 : (hp.1 901 0).toNatClampNeg = L := by rw [h9.2]; show (ia 901 0).toNatClampNeg = L; rw [eL]; exact zcln (by omega)
    rw [bg241_469, eL2, show nI i + 1 = nI (i + 1) from ns i, show nI i + 2 = nI (i + 2) from by rw [show (2 : Int32) = nI 2 from rfl, nI_add], zg (by omega) (by omega), zg (by omega) (by omega), zcln (show i + 1 < 100000 by omega), zcln (show i + 2 < 100000 by omega), e9 (i + 1), e9 (i + 2)]
    exact h
  · obtain ⟨s0, rfl⟩ := hx
    rw [b241_485, if_pos rfl, z1473]
    exact hX _ _ _ _ _ _ _ hi h9 h91
theorem L_law (hI : zInv pl dr ia la) (eL : ia 901 0 = nI L) (hL : L ≤ 384) (hi : i + 6 ≤ L) (hX : yXs ia i KL) : zWM (d + 400) 86 [.ref 0, .int (ia 900 (i + 1)), .int (ia 900 (i + 2)), .int (ia 900 (i + 3)), .int (ia 900 (i + 4))] (ia, la, zRA pl dr cp cw rp) (zK (d + 401) 241 518 (yLs i) [] KL) := by
  refine zTwo (km := 195) (pc2 := 546) (asM := [.ref 127, .int (ia 900 (i + 1)), .int (ia 900 (i + 2)), .int (ia 900 (i + 3)), .int (ia 900 (i + 4))]) (ty := zIsL) (by decide) zm_86 (by decide) zm_195 zIsL_t zIsL_t (fun Kc Km hc hm => T_law (d := d) (x1 := ia 900 (i + 1)) (x2 := ia 900 (i + 2)) (x3 := ia 900 (i + 3)) (x4 := ia 900 (i + 4)) hI hc hm) (fun x hp hx h9 h => ?_) (fun x ja lb pl dr cp cw rp hx hi h9 h91 => ?_)
  · obtain ⟨s0, rfl⟩ := hx
    have e9 : ∀ k, hp.1 900 k = ia 900 k := fun k => by rw [h9.1]
    have eL2 : (hp.1 901 0).toNatClampNeg = L := by rw [h9.2]; show (ia 901 0).toNatClampNeg = L; rw [eL]; exact zcln (by omega)
    rw [bg241_518, eL2, show nI i + 1 = nI (i + 1) from ns i, show nI i + 2 = nI (i + 2) from by rw [show (2 : Int32) = nI 2 from rfl, nI_add], show nI i + 3 = nI (i + 3) from by rw [show (3 : Int32) = nI 3 from rfl, nI_add], show nI i + 4 = nI (i + 4) from by rw [show (4 : Int32) = nI 4 from rfl, nI_add], zg (by omega) (by omega), zg (by omega) (by omega), zg (by omega) (by omega), zg (by omega) (by omega), zcln (show i + 1 < 100000 by omega), zcln (show i + 2 < 100000 by omega), zcln (show i + 3 < 100000 by omega), zcln (show i + 4 < 100000 by omega), e9 (i + 1), e9 (i + 2), e9 (i + 3), e9 (i + 4)]
    exact h
  · obtain ⟨s0, rfl⟩ := hx
    rw [b241_546, if_pos (show lg_cmp s0 s0 = 0 from (lg_cmp_eq s0 s0).mpr rfl), z1473]
    exact hX _ _ _ _ _ _ _ hi h9 h91
theorem L_let (hI : zInv pl dr ia la) (eL : ia 901 0 = nI L) (hL : L ≤ 384) (hi : i + 6 ≤ L) (hX : yXs ia i KL) : zWM (d + 400) 88 [.ref 0, .int (ia 900 (i + 1)), .int (ia 900 (i + 2)), .int (ia 900 (i + 3)), .int (ia 900 (i + 4))] (ia, la, zRA pl dr cp cw rp) (zK (d + 401) 241 580 (yLs i) [] KL) := by
  refine zTwo (km := 197) (pc2 := 608) (asM := [.ref 127, .int (ia 900 (i + 1)), .int (ia 900 (i + 2)), .int (ia 900 (i + 3)), .int (ia 900 (i + 4))]) (ty := zIsI) (by decide) zm_88 (by decide) zm_197 zIsI_t zIsI_t (fun Kc Km hc hm => T_let (d := d) (x1 := ia 900 (i + 1)) (x2 := ia 900 (i + 2)) (x3 := ia 900 (i + 3)) (x4 := ia 900 (i + 4)) hI hc hm) (fun x hp hx h9 h => ?_) (fun x ja lb pl dr cp cw rp hx hi h9 h91 => ?_)
  · obtain ⟨s0, rfl⟩ := hx
    have e9 : ∀ k, hp.1 900 k = ia 900 k := fun k => by rw [h9.1]
    have eL2 : (hp.1 901 0).toNatClampNeg = L := by rw [h9.2]; show (ia 901 0).toNatClampNeg = L; rw [eL]; exact zcln (by omega)
    rw [bg241_580, eL2, show nI i + 1 = nI (i + 1) from ns i, show nI i + 2 = nI (i + 2) from by rw [show (2 : Int32) = nI 2 from rfl, nI_add], show nI i + 3 = nI (i + 3) from by rw [show (3 : Int32) = nI 3 from rfl, nI_add], show nI i + 4 = nI (i + 4) from by rw [show (4 : Int32) = nI 4 from rfl, nI_add], zg (by omega) (by omega), zg (by omega) (by omega), zg (by omega) (by omega), zg (by omega) (by omega), zcln (show i + 1 < 100000 by omega), zcln (show i + 2 < 100000 by omega), zcln (show i + 3 < 100000 by omega), zcln (show i + 4 < 100000 by omega), e9 (i + 1), e9 (i + 2), e9 (i + 3), e9 (i + 4)]
    exact h
  · obtain ⟨s0, rfl⟩ := hx
    rw [b241_608, if_pos rfl, z1473]
    exact hX _ _ _ _ _ _ _ hi h9 h91
theorem L_end (hI : zInv pl dr ia la) (eL : ia 901 0 = nI L) (hL : L ≤ 384) (hi : i + 6 ≤ L) (hX : yXs ia i KL) : zWM (d + 400) 89 [.ref 0, .int (ia 900 (i + 1))] (ia, la, zRA pl dr cp cw rp) (zK (d + 401) 241 623 (yLs i) [] KL) := by
  refine zTwo (km := 198) (pc2 := 633) (asM := [.ref 127, .int (ia 900 (i + 1))]) (ty := zIsI) (by decide) zm_89 (by decide) zm_198 zIsI_t zIsI_t (fun Kc Km hc hm => T_end (d := d) (x1 := ia 900 (i + 1)) hI hc hm) (fun x hp hx h9 h => ?_) (fun x ja lb pl dr cp cw rp hx hi h9 h91 => ?_)
  · obtain ⟨s0, rfl⟩ := hx
    have e9 : ∀ k, hp.1 900 k = ia 900 k := fun k => by rw [h9.1]
    have eL2 : (hp.1 901 0).toNatClampNeg = L := by rw [h9.2]; show (ia 901 0).toNatClampNeg = L; rw [eL]; exact zcln (by omega)
    rw [bg241_623, eL2, show nI i + 1 = nI (i + 1) from ns i, zg (by omega) (by omega), zcln (show i + 1 < 100000 by omega), e9 (i + 1)]
    exact h
  · obtain ⟨s0, rfl⟩ := hx
    rw [b241_633, if_pos rfl, z1473]
    exact hX _ _ _ _ _ _ _ hi h9 h91
theorem L_teach (hI : zInv pl dr ia la) (eL : ia 901 0 = nI L) (hL : L ≤ 384) (hi : i + 6 ≤ L) (hX : yXs ia i KL) : zWM (d + 400) 90 [.ref 0, .int (ia 900 (i + 1))] (ia, la, zRA pl dr cp cw rp) (zK (d + 401) 241 648 (yLs i) [] KL) := by
  refine zTwo (km := 200) (pc2 := 658) (asM := [.ref 127, .int (ia 900 (i + 1))]) (ty := zIsI) (by decide) zm_90 (by decide) zm_200 zIsI_t zIsI_t (fun Kc Km hc hm => T_teach (d := d) (x1 := ia 900 (i + 1)) hI hc hm) (fun x hp hx h9 h => ?_) (fun x ja lb pl dr cp cw rp hx hi h9 h91 => ?_)
  · obtain ⟨s0, rfl⟩ := hx
    have e9 : ∀ k, hp.1 900 k = ia 900 k := fun k => by rw [h9.1]
    have eL2 : (hp.1 901 0).toNatClampNeg = L := by rw [h9.2]; show (ia 901 0).toNatClampNeg = L; rw [eL]; exact zcln (by omega)
    rw [bg241_648, eL2, show nI i + 1 = nI (i + 1) from ns i, zg (by omega) (by omega), zcln (show i + 1 < 100000 by omega), e9 (i + 1)]
    exact h
  · obtain ⟨s0, rfl⟩ := hx
    rw [b241_658, if_pos rfl, z1473]
    exact hX _ _ _ _ _ _ _ hi h9 h91
theorem L_go (hI : zInv pl dr ia la) (eL : ia 901 0 = nI L) (hL : L ≤ 384) (hi : i + 6 ≤ L) (hX : yXs ia i KL) : zWM (d + 400) 91 [.ref 0, .int (ia 900 (i + 1))] (ia, la, zRA pl dr cp cw rp) (zK (d + 401) 241 673 (yLs i) [] KL) := by
  refine zTwo (km := 201) (pc2 := 683) (asM := [.ref 127, .int (ia 900 (i + 1))]) (ty := zIsI) (by decide) zm_91 (by decide) zm_201 zIsI_t zIsI_t (fun Kc Km hc hm => T_go (d := d) (x1 := ia 900 (i + 1)) hI hc hm) (fun x hp hx h9 h => ?_) (fun x ja lb pl dr cp cw rp hx hi h9 h91 => ?_)
  · obtain ⟨s0, rfl⟩ := hx
    have e9 : ∀ k, hp.1 900 k = ia 900 k := fun k => by rw [h9.1]
    have eL2 : (hp.1 901 0).toNatClampNeg = L := by rw [h9.2]; show (ia 901 0).toNatClampNeg = L; rw [eL]; exact zcln (by omega)
    rw [bg241_673, eL2, show nI i + 1 = nI (i + 1) from ns i, zg (by omega) (by omega), zcln (show i + 1 < 100000 by omega), e9 (i + 1)]
    exact h
  · obtain ⟨s0, rfl⟩ := hx
    rw [b241_683, if_pos rfl, z1473]
    exact hX _ _ _ _ _ _ _ hi h9 h91
theorem L_ahead (hI : zInv pl dr ia la) (eL : ia 901 0 = nI L) (hL : L ≤ 384) (hi : i + 6 ≤ L) (hX : yXs ia i KL) : zWM (d + 400) 93 [.ref 0, .int (ia 900 (i + 1)), .int (ia 900 (i + 2)), .int (ia 900 (i + 3))] (ia, la, zRA pl dr cp cw rp) (zK (d + 401) 241 710 (yLs i) [] KL) := by
  refine zTwo (km := 202) (pc2 := 732) (asM := [.ref 127, .int (ia 900 (i + 1)), .int (ia 900 (i + 2)), .int (ia 900 (i + 3))]) (ty := zIsI) (by decide) zm_93 (by decide) zm_202 zIsI_t zIsI_t (fun Kc Km hc hm => T_ahead (d := d) (x1 := ia 900 (i + 1)) (x2 := ia 900 (i + 2)) (x3 := ia 900 (i + 3)) hI hc hm) (fun x hp hx h9 h => ?_) (fun x ja lb pl dr cp cw rp hx hi h9 h91 => ?_)
  · obtain ⟨s0, rfl⟩ := hx
    have e9 : ∀ k, hp.1 900 k = ia 900 k := fun k => by rw [h9.1]
    have eL2 : (hp.1 901 0).toNatClampNeg = L := by rw [h9.2]; show (ia 901 0).toNatClampNeg = L; rw [eL]; exact zcln (by omega)
    rw [bg241_710, eL2, show nI i + 1 = nI (i + 1) from ns i, show nI i + 2 = nI (i + 2) from by rw [show (2 : Int32) = nI 2 from rfl, nI_add], show nI i + 3 = nI (i + 3) from by rw [show (3 : Int32) = nI 3 from rfl, nI_add], zg (by omega) (by omega), zg (by omega) (by omega), zg (by omega) (by omega), zcln (show i + 1 < 100000 by omega), zcln (show i + 2 < 100000 by omega), zcln (show i + 3 < 100000 by omega), e9 (i + 1), e9 (i + 2), e9 (i + 3)]
    exact h
  · obtain ⟨s0, rfl⟩ := hx
    rw [b241_732, if_pos rfl, z1473]
    exact hX _ _ _ _ _ _ _ hi h9 h91
theorem L_free (hI : zInv pl dr ia la) (eL : ia 901 0 = nI L) (hL : L ≤ 384) (hi : i + 6 ≤ L) (hX : yXs ia i KL) : zWM (d + 400) 94 [.ref 0, .int (ia 900 (i + 1))] (ia, la, zRA pl dr cp cw rp) (zK (d + 401) 241 747 (yLs i) [] KL) := by
  refine zTwo (km := 203) (pc2 := 757) (asM := [.ref 127, .int (ia 900 (i + 1))]) (ty := zIsI) (by decide) zm_94 (by decide) zm_203 zIsI_t zIsI_t (fun Kc Km hc hm => T_free (d := d) (x1 := ia 900 (i + 1)) hI hc hm) (fun x hp hx h9 h => ?_) (fun x ja lb pl dr cp cw rp hx hi h9 h91 => ?_)
  · obtain ⟨s0, rfl⟩ := hx
    have e9 : ∀ k, hp.1 900 k = ia 900 k := fun k => by rw [h9.1]
    have eL2 : (hp.1 901 0).toNatClampNeg = L := by rw [h9.2]; show (ia 901 0).toNatClampNeg = L; rw [eL]; exact zcln (by omega)
    rw [bg241_747, eL2, show nI i + 1 = nI (i + 1) from ns i, zg (by omega) (by omega), zcln (show i + 1 < 100000 by omega), e9 (i + 1)]
    exact h
  · obtain ⟨s0, rfl⟩ := hx
    rw [b241_757, if_pos rfl, z1473]
    exact hX _ _ _ _ _ _ _ hi h9 h91
theorem L_apart (hI : zInv pl dr ia la) (eL : ia 901 0 = nI L) (hL : L ≤ 384) (hi : i + 6 ≤ L) (hX : yXs ia i KL) : zWM (d + 400) 96 [.ref 0, .int (ia 900 (i + 1)), .int (ia 900 (i + 2))] (ia, la, zRA pl dr cp cw rp) (zK (d + 401) 241 778 (yLs i) [] KL) := by
  refine zTwo (km := 204) (pc2 := 794) (asM := [.ref 127, .int (ia 900 (i + 1)), .int (ia 900 (i + 2))]) (ty := zIsI) (by decide) zm_96 (by decide) zm_204 zIsI_t zIsI_t (fun Kc Km hc hm => T_apart (d := d) (x1 := ia 900 (i + 1)) (x2 := ia 900 (i + 2)) hI hc hm) (fun x hp hx h9 h => ?_) (fun x ja lb pl dr cp cw rp hx hi h9 h91 => ?_)
  · obtain ⟨s0, rfl⟩ := hx
    have e9 : ∀ k, hp.1 900 k = ia 900 k := fun k => by rw [h9.1]
    have eL2 : (hp.1 901 0).toNatClampNeg = L := by rw [h9.2]; show (ia 901 0).toNatClampNeg = L; rw [eL]; exact zcln (by omega)
    rw [bg241_778, eL2, show nI i + 1 = nI (i + 1) from ns i, show nI i + 2 = nI (i + 2) from by rw [show (2 : Int32) = nI 2 from rfl, nI_add], zg (by omega) (by omega), zg (by omega) (by omega), zcln (show i + 1 < 100000 by omega), zcln (show i + 2 < 100000 by omega), e9 (i + 1), e9 (i + 2)]
    exact h
  · obtain ⟨s0, rfl⟩ := hx
    rw [b241_794, if_pos rfl, z1473]
    exact hX _ _ _ _ _ _ _ hi h9 h91
theorem L_like (hI : zInv pl dr ia la) (eL : ia 901 0 = nI L) (hL : L ≤ 384) (hi : i + 6 ≤ L) (hX : yXs ia i KL) : zWM (d + 400) 97 [.ref 0, .int (ia 900 (i + 1))] (ia, la, zRA pl dr cp cw rp) (zK (d + 401) 241 809 (yLs i) [] KL) := by
  refine zTwo (km := 205) (pc2 := 819) (asM := [.ref 127, .int (ia 900 (i + 1))]) (ty := zIsI) (by decide) zm_97 (by decide) zm_205 zIsI_t zIsI_t (fun Kc Km hc hm => T_like (d := d) (x1 := ia 900 (i + 1)) hI hc hm) (fun x hp hx h9 h => ?_) (fun x ja lb pl dr cp cw rp hx hi h9 h91 => ?_)
  · obtain ⟨s0, rfl⟩ := hx
    have e9 : ∀ k, hp.1 900 k = ia 900 k := fun k => by rw [h9.1]
    have eL2 : (hp.1 901 0).toNatClampNeg = L := by rw [h9.2]; show (ia 901 0).toNatClampNeg = L; rw [eL]; exact zcln (by omega)
    rw [bg241_809, eL2, show nI i + 1 = nI (i + 1) from ns i, zg (by omega) (by omega), zcln (show i + 1 < 100000 by omega), e9 (i + 1)]
    exact h
  · obtain ⟨s0, rfl⟩ := hx
    rw [b241_819, if_pos rfl, z1473]
    exact hX _ _ _ _ _ _ _ hi h9 h91
theorem L_could (hI : zInv pl dr ia la) (eL : ia 901 0 = nI L) (hL : L ≤ 384) (hi : i + 6 ≤ L) (hX : yXs ia i KL) : zWM (d + 400) 98 [.ref 0, .int (ia 900 (i + 1)), .int (ia 900 (i + 2))] (ia, la, zRA pl dr cp cw rp) (zK (d + 401) 241 840 (yLs i) [] KL) := by
  refine zTwo (km := 206) (pc2 := 856) (asM := [.ref 127, .int (ia 900 (i + 1)), .int (ia 900 (i + 2))]) (ty := zIsI) (by decide) zm_98 (by decide) zm_206 zIsI_t zIsI_t (fun Kc Km hc hm => T_could (d := d) (x1 := ia 900 (i + 1)) (x2 := ia 900 (i + 2)) hI hc hm) (fun x hp hx h9 h => ?_) (fun x ja lb pl dr cp cw rp hx hi h9 h91 => ?_)
  · obtain ⟨s0, rfl⟩ := hx
    have e9 : ∀ k, hp.1 900 k = ia 900 k := fun k => by rw [h9.1]
    have eL2 : (hp.1 901 0).toNatClampNeg = L := by rw [h9.2]; show (ia 901 0).toNatClampNeg = L; rw [eL]; exact zcln (by omega)
    rw [bg241_840, eL2, show nI i + 1 = nI (i + 1) from ns i, show nI i + 2 = nI (i + 2) from by rw [show (2 : Int32) = nI 2 from rfl, nI_add], zg (by omega) (by omega), zg (by omega) (by omega), zcln (show i + 1 < 100000 by omega), zcln (show i + 2 < 100000 by omega), e9 (i + 1), e9 (i + 2)]
    exact h
  · obtain ⟨s0, rfl⟩ := hx
    rw [b241_856, if_pos rfl, z1473]
    exact hX _ _ _ _ _ _ _ hi h9 h91
theorem L_match (hI : zInv pl dr ia la) (eL : ia 901 0 = nI L) (hL : L ≤ 384) (hi : i + 6 ≤ L) (hX : yXs ia i KL) : zWM (d + 400) 99 [.ref 0, .int (ia 900 (i + 1))] (ia, la, zRA pl dr cp cw rp) (zK (d + 401) 241 871 (yLs i) [] KL) := by
  refine zTwo (km := 208) (pc2 := 881) (asM := [.ref 127, .int (ia 900 (i + 1))]) (ty := zIsI) (by decide) zm_99 (by decide) zm_208 zIsI_t zIsI_t (fun Kc Km hc hm => T_match (d := d) (x1 := ia 900 (i + 1)) hI hc hm) (fun x hp hx h9 h => ?_) (fun x ja lb pl dr cp cw rp hx hi h9 h91 => ?_)
  · obtain ⟨s0, rfl⟩ := hx
    have e9 : ∀ k, hp.1 900 k = ia 900 k := fun k => by rw [h9.1]
    have eL2 : (hp.1 901 0).toNatClampNeg = L := by rw [h9.2]; show (ia 901 0).toNatClampNeg = L; rw [eL]; exact zcln (by omega)
    rw [bg241_871, eL2, show nI i + 1 = nI (i + 1) from ns i, zg (by omega) (by omega), zcln (show i + 1 < 100000 by omega), e9 (i + 1)]
    exact h
  · obtain ⟨s0, rfl⟩ := hx
    rw [b241_881, if_pos rfl, z1473]
    exact hX _ _ _ _ _ _ _ hi h9 h91
theorem L_auction (hI : zInv pl dr ia la) (eL : ia 901 0 = nI L) (hL : L ≤ 384) (hi : i + 6 ≤ L) (hX : yXs ia i KL) : zWM (d + 400) 100 [.ref 0, .int (ia 900 (i + 1)), .int (ia 900 (i + 2))] (ia, la, zRA pl dr cp cw rp) (zK (d + 401) 241 902 (yLs i) [] KL) := by
  refine zTwo (km := 210) (pc2 := 918) (asM := [.ref 127, .int (ia 900 (i + 1)), .int (ia 900 (i + 2))]) (ty := zIsI) (by decide) zm_100 (by decide) zm_210 zIsI_t zIsI_t (fun Kc Km hc hm => T_auction (d := d) (x1 := ia 900 (i + 1)) (x2 := ia 900 (i + 2)) hI hc hm) (fun x hp hx h9 h => ?_) (fun x ja lb pl dr cp cw rp hx hi h9 h91 => ?_)
  · obtain ⟨s0, rfl⟩ := hx
    have e9 : ∀ k, hp.1 900 k = ia 900 k := fun k => by rw [h9.1]
    have eL2 : (hp.1 901 0).toNatClampNeg = L := by rw [h9.2]; show (ia 901 0).toNatClampNeg = L; rw [eL]; exact zcln (by omega)
    rw [bg241_902, eL2, show nI i + 1 = nI (i + 1) from ns i, show nI i + 2 = nI (i + 2) from by rw [show (2 : Int32) = nI 2 from rfl, nI_add], zg (by omega) (by omega), zg (by omega) (by omega), zcln (show i + 1 < 100000 by omega), zcln (show i + 2 < 100000 by omega), e9 (i + 1), e9 (i + 2)]
    exact h
  · obtain ⟨s0, rfl⟩ := hx
    rw [b241_918, if_pos rfl, z1473]
    exact hX _ _ _ _ _ _ _ hi h9 h91
theorem L_putOff (hI : zInv pl dr ia la) (eL : ia 901 0 = nI L) (hL : L ≤ 384) (hi : i + 6 ≤ L) (hX : yXs ia i KL) : zWM (d + 400) 103 [.ref 0] (ia, la, zRA pl dr cp cw rp) (zK (d + 401) 241 927 (yLs i) [] KL) := by
  refine zTwo (km := 212) (pc2 := 931) (asM := [.ref 127]) (ty := zIsI) (by decide) zm_103 (by decide) zm_212 zIsI_t zIsI_t (fun Kc Km hc hm => T_putOff (d := d)  hI hc hm) (fun x hp hx h9 h => ?_) (fun x ja lb pl dr cp cw rp hx hi h9 h91 => ?_)
  · obtain ⟨s0, rfl⟩ := hx
    have e9 : ∀ k, hp.1 900 k = ia 900 k := fun k => by rw [h9.1]
    have eL2 : (hp.1 901 0).toNatClampNeg = L := by rw [h9.2]; show (ia 901 0).toNatClampNeg = L; rw [eL]; exact zcln (by omega)
    rw [bg241_927]
    exact h
  · obtain ⟨s0, rfl⟩ := hx
    rw [b241_931, if_pos rfl, z1473]
    exact hX _ _ _ _ _ _ _ hi h9 h91
theorem L_ring (hI : zInv pl dr ia la) (eL : ia 901 0 = nI L) (hL : L ≤ 384) (hi : i + 6 ≤ L) (hX : yXs ia i KL) : zWM (d + 400) 106 [.ref 0, .int (ia 900 (i + 1)), .int (ia 900 (i + 2))] (ia, la, zRA pl dr cp cw rp) (zK (d + 401) 241 952 (yLs i) [] KL) := by
  refine zTwo (km := 213) (pc2 := 968) (asM := [.ref 127, .int (ia 900 (i + 1)), .int (ia 900 (i + 2))]) (ty := zIsI) (by decide) zm_106 (by decide) zm_213 zIsI_t zIsI_t (fun Kc Km hc hm => T_ring (d := d) (x1 := ia 900 (i + 1)) (x2 := ia 900 (i + 2)) hI hc hm) (fun x hp hx h9 h => ?_) (fun x ja lb pl dr cp cw rp hx hi h9 h91 => ?_)
  · obtain ⟨s0, rfl⟩ := hx
    have e9 : ∀ k, hp.1 900 k = ia 900 k := fun k => by rw [h9.1]
    have eL2 : (hp.1 901 0).toNatClampNeg = L := by rw [h9.2]; show (ia 901 0).toNatClampNeg = L; rw [eL]; exact zcln (by omega)
    rw [bg241_952, eL2, show nI i + 1 = nI (i + 1) from ns i, show nI i + 2 = nI (i + 2) from by rw [show (2 : Int32) = nI 2 from rfl, nI_add], zg (by omega) (by omega), zg (by omega) (by omega), zcln (show i + 1 < 100000 by omega), zcln (show i + 2 < 100000 by omega), e9 (i + 1), e9 (i + 2)]
    exact h
  · obtain ⟨s0, rfl⟩ := hx
    rw [b241_968, if_pos rfl, z1473]
    exact hX _ _ _ _ _ _ _ hi h9 h91
theorem L_lessons (hI : zInv pl dr ia la) (eL : ia 901 0 = nI L) (hL : L ≤ 384) (hi : i + 6 ≤ L) (hX : yXs ia i KL) : zWM (d + 400) 107 [.ref 0, .int (ia 900 (i + 1))] (ia, la, zRA pl dr cp cw rp) (zK (d + 401) 241 983 (yLs i) [] KL) := by
  refine zTwo (km := 215) (pc2 := 993) (asM := [.ref 127, .int (ia 900 (i + 1))]) (ty := zIsI) (by decide) zm_107 (by decide) zm_215 zIsI_t zIsI_t (fun Kc Km hc hm => T_lessons (d := d) (x1 := ia 900 (i + 1)) hI hc hm) (fun x hp hx h9 h => ?_) (fun x ja lb pl dr cp cw rp hx hi h9 h91 => ?_)
  · obtain ⟨s0, rfl⟩ := hx
    have e9 : ∀ k, hp.1 900 k = ia 900 k := fun k => by rw [h9.1]
    have eL2 : (hp.1 901 0).toNatClampNeg = L := by rw [h9.2]; show (ia 901 0).toNatClampNeg = L; rw [eL]; exact zcln (by omega)
    rw [bg241_983, eL2, show nI i + 1 = nI (i + 1) from ns i, zg (by omega) (by omega), zcln (show i + 1 < 100000 by omega), e9 (i + 1)]
    exact h
  · obtain ⟨s0, rfl⟩ := hx
    rw [b241_993, if_pos rfl, z1473]
    exact hX _ _ _ _ _ _ _ hi h9 h91
theorem L_rests (hI : zInv pl dr ia la) (eL : ia 901 0 = nI L) (hL : L ≤ 384) (hi : i + 6 ≤ L) (hX : yXs ia i KL) : zWM (d + 400) 111 [.ref 0, .int (ia 900 (i + 1)), .int (ia 900 (i + 2))] (ia, la, zRA pl dr cp cw rp) (zK (d + 401) 241 1014 (yLs i) [] KL) := by
  refine zTwo (km := 220) (pc2 := 1030) (asM := [.ref 127, .int (ia 900 (i + 1)), .int (ia 900 (i + 2))]) (ty := zIsI) (by decide) zm_111 (by decide) zm_220 zIsI_t zIsI_t (fun Kc Km hc hm => T_rests (d := d) (x1 := ia 900 (i + 1)) (x2 := ia 900 (i + 2)) hI hc hm) (fun x hp hx h9 h => ?_) (fun x ja lb pl dr cp cw rp hx hi h9 h91 => ?_)
  · obtain ⟨s0, rfl⟩ := hx
    have e9 : ∀ k, hp.1 900 k = ia 900 k := fun k => by rw [h9.1]
    have eL2 : (hp.1 901 0).toNatClampNeg = L := by rw [h9.2]; show (ia 901 0).toNatClampNeg = L; rw [eL]; exact zcln (by omega)
    rw [bg241_1014, eL2, show nI i + 1 = nI (i + 1) from ns i, show nI i + 2 = nI (i + 2) from by rw [show (2 : Int32) = nI 2 from rfl, nI_add], zg (by omega) (by omega), zg (by omega) (by omega), zcln (show i + 1 < 100000 by omega), zcln (show i + 2 < 100000 by omega), e9 (i + 1), e9 (i + 2)]
    exact h
  · obtain ⟨s0, rfl⟩ := hx
    rw [b241_1030, if_pos rfl, z1473]
    exact hX _ _ _ _ _ _ _ hi h9 h91
theorem L_rest (hI : zInv pl dr ia la) (eL : ia 901 0 = nI L) (hL : L ≤ 384) (hi : i + 6 ≤ L) (hX : yXs ia i KL) : zWM (d + 400) 112 [.ref 0, .int (ia 900 (i + 1)), .int (ia 900 (i + 2)), .int (ia 900 (i + 3))] (ia, la, zRA pl dr cp cw rp) (zK (d + 401) 241 1057 (yLs i) [] KL) := by
  refine zTwo (km := 221) (pc2 := 1079) (asM := [.ref 127, .int (ia 900 (i + 1)), .int (ia 900 (i + 2)), .int (ia 900 (i + 3))]) (ty := zIsI) (by decide) zm_112 (by decide) zm_221 zIsI_t zIsI_t (fun Kc Km hc hm => T_rest (d := d) (x1 := ia 900 (i + 1)) (x2 := ia 900 (i + 2)) (x3 := ia 900 (i + 3)) hI hc hm) (fun x hp hx h9 h => ?_) (fun x ja lb pl dr cp cw rp hx hi h9 h91 => ?_)
  · obtain ⟨s0, rfl⟩ := hx
    have e9 : ∀ k, hp.1 900 k = ia 900 k := fun k => by rw [h9.1]
    have eL2 : (hp.1 901 0).toNatClampNeg = L := by rw [h9.2]; show (ia 901 0).toNatClampNeg = L; rw [eL]; exact zcln (by omega)
    rw [bg241_1057, eL2, show nI i + 1 = nI (i + 1) from ns i, show nI i + 2 = nI (i + 2) from by rw [show (2 : Int32) = nI 2 from rfl, nI_add], show nI i + 3 = nI (i + 3) from by rw [show (3 : Int32) = nI 3 from rfl, nI_add], zg (by omega) (by omega), zg (by omega) (by omega), zg (by omega) (by omega), zcln (show i + 1 < 100000 by omega), zcln (show i + 2 < 100000 by omega), zcln (show i + 3 < 100000 by omega), e9 (i + 1), e9 (i + 2), e9 (i + 3)]
    exact h
  · obtain ⟨s0, rfl⟩ := hx
    rw [b241_1079, if_pos rfl, z1473]
    exact hX _ _ _ _ _ _ _ hi h9 h91
theorem L_quiet (hI : zInv pl dr ia la) (eL : ia 901 0 = nI L) (hL : L ≤ 384) (hi : i + 6 ≤ L) (hX : yXs ia i KL) : zWM (d + 400) 113 [.ref 0, .int (ia 900 (i + 1)), .int (ia 900 (i + 2))] (ia, la, zRA pl dr cp cw rp) (zK (d + 401) 241 1100 (yLs i) [] KL) := by
  refine zTwo (km := 223) (pc2 := 1116) (asM := [.ref 127, .int (ia 900 (i + 1)), .int (ia 900 (i + 2))]) (ty := zIsL) (by decide) zm_113 (by decide) zm_223 zIsL_t zIsL_t (fun Kc Km hc hm => T_quiet (d := d) (x1 := ia 900 (i + 1)) (x2 := ia 900 (i + 2)) hI hc hm) (fun x hp hx h9 h => ?_) (fun x ja lb pl dr cp cw rp hx hi h9 h91 => ?_)
  · obtain ⟨s0, rfl⟩ := hx
    have e9 : ∀ k, hp.1 900 k = ia 900 k := fun k => by rw [h9.1]
    have eL2 : (hp.1 901 0).toNatClampNeg = L := by rw [h9.2]; show (ia 901 0).toNatClampNeg = L; rw [eL]; exact zcln (by omega)
    rw [bg241_1100, eL2, show nI i + 1 = nI (i + 1) from ns i, show nI i + 2 = nI (i + 2) from by rw [show (2 : Int32) = nI 2 from rfl, nI_add], zg (by omega) (by omega), zg (by omega) (by omega), zcln (show i + 1 < 100000 by omega), zcln (show i + 2 < 100000 by omega), e9 (i + 1), e9 (i + 2)]
    exact h
  · obtain ⟨s0, rfl⟩ := hx
    rw [b241_1116, if_pos (show lg_cmp s0 s0 = 0 from (lg_cmp_eq s0 s0).mpr rfl), z1473]
    exact hX _ _ _ _ _ _ _ hi h9 h91
theorem L_see {x5 : Int32} (hI : zInv pl dr ia la) (eL : ia 901 0 = nI L) (hL : L ≤ 384) (hi : i + 6 ≤ L) (h5 : x5 = if ia 900 (i + 5) = 0 then 0 else 1) (hX : yXs ia i KL) : zWM (d + 400) 117 [.ref 0, .int (ia 900 (i + 1)), .int (ia 900 (i + 2)), .int (ia 900 (i + 3)), .int (ia 900 (i + 4)), .int (x5)] (ia, la, zRA pl dr cp cw rp) (zK (d + 401) 241 1164 (yLs i) [] KL) := by
  refine zTwo (km := 224) (pc2 := 1206) (asM := [.ref 127, .int (ia 900 (i + 1)), .int (ia 900 (i + 2)), .int (ia 900 (i + 3)), .int (ia 900 (i + 4)), .int (x5)]) (ty := zIsI) (by decide) zm_117 (by decide) zm_224 zIsI_t zIsI_t (fun Kc Km hc hm => T_see (d := d) (x1 := ia 900 (i + 1)) (x2 := ia 900 (i + 2)) (x3 := ia 900 (i + 3)) (x4 := ia 900 (i + 4)) (x5 := x5) (show x5 = 0 ∨ x5 = 1 by rw [h5]; split; exact Or.inl rfl; exact Or.inr rfl) hI hc hm) (fun x hp hx h9 h => ?_) (fun x ja lb pl dr cp cw rp hx hi h9 h91 => ?_)
  · obtain ⟨s0, rfl⟩ := hx
    have e9 : ∀ k, hp.1 900 k = ia 900 k := fun k => by rw [h9.1]
    have eL2 : (hp.1 901 0).toNatClampNeg = L := by rw [h9.2]; show (ia 901 0).toNatClampNeg = L; rw [eL]; exact zcln (by omega)
    rw [bg241_1164, eL2, show nI i + 1 = nI (i + 1) from ns i, show nI i + 2 = nI (i + 2) from by rw [show (2 : Int32) = nI 2 from rfl, nI_add], show nI i + 3 = nI (i + 3) from by rw [show (3 : Int32) = nI 3 from rfl, nI_add], show nI i + 4 = nI (i + 4) from by rw [show (4 : Int32) = nI 4 from rfl, nI_add], show nI i + 5 = nI (i + 5) from by rw [show (5 : Int32) = nI 5 from rfl, nI_add], zg (by omega) (by omega), zg (by omega) (by omega), zg (by omega) (by omega), zg (by omega) (by omega), zg (by omega) (by omega), zcln (show i + 1 < 100000 by omega), zcln (show i + 2 < 100000 by omega), zcln (show i + 3 < 100000 by omega), zcln (show i + 4 < 100000 by omega), zcln (show i + 5 < 100000 by omega), e9 (i + 1), e9 (i + 2), e9 (i + 3), e9 (i + 4), e9 (i + 5)]
    by_cases c5 : ia 900 (i + 5) = 0
    · rw [if_pos c5]; rw [if_pos c5] at h5; rw [h5] at h; exact h
    · rw [if_neg c5]; rw [if_neg c5] at h5; rw [h5] at h; exact h
  · obtain ⟨s0, rfl⟩ := hx
    rw [b241_1206, if_pos rfl, z1473]
    exact hX _ _ _ _ _ _ _ hi h9 h91
theorem L_strike (hI : zInv pl dr ia la) (eL : ia 901 0 = nI L) (hL : L ≤ 384) (hi : i + 6 ≤ L) (hX : yXs ia i KL) : zWM (d + 400) 118 [.ref 0, .int (ia 900 (i + 1))] (ia, la, zRA pl dr cp cw rp) (zK (d + 401) 241 1221 (yLs i) [] KL) := by
  refine zTwo (km := 225) (pc2 := 1231) (asM := [.ref 127, .int (ia 900 (i + 1))]) (ty := zIsI) (by decide) zm_118 (by decide) zm_225 zIsI_t zIsI_t (fun Kc Km hc hm => T_strike (d := d) (x1 := ia 900 (i + 1)) hI hc hm) (fun x hp hx h9 h => ?_) (fun x ja lb pl dr cp cw rp hx hi h9 h91 => ?_)
  · obtain ⟨s0, rfl⟩ := hx
    have e9 : ∀ k, hp.1 900 k = ia 900 k := fun k => by rw [h9.1]
    have eL2 : (hp.1 901 0).toNatClampNeg = L := by rw [h9.2]; show (ia 901 0).toNatClampNeg = L; rw [eL]; exact zcln (by omega)
    rw [bg241_1221, eL2, show nI i + 1 = nI (i + 1) from ns i, zg (by omega) (by omega), zcln (show i + 1 < 100000 by omega), e9 (i + 1)]
    exact h
  · obtain ⟨s0, rfl⟩ := hx
    rw [b241_1231, if_pos rfl, z1473]
    exact hX _ _ _ _ _ _ _ hi h9 h91
theorem L_known (hI : zInv pl dr ia la) (eL : ia 901 0 = nI L) (hL : L ≤ 384) (hi : i + 6 ≤ L) (hX : yXs ia i KL) : zWM (d + 400) 119 [.ref 0, .int (ia 900 (i + 1))] (ia, la, zRA pl dr cp cw rp) (zK (d + 401) 241 1246 (yLs i) [] KL) := by
  refine zTwo (km := 226) (pc2 := 1256) (asM := [.ref 127, .int (ia 900 (i + 1))]) (ty := zIsI) (by decide) zm_119 (by decide) zm_226 zIsI_t zIsI_t (fun Kc Km hc hm => T_known (d := d) (x1 := ia 900 (i + 1)) hI hc hm) (fun x hp hx h9 h => ?_) (fun x ja lb pl dr cp cw rp hx hi h9 h91 => ?_)
  · obtain ⟨s0, rfl⟩ := hx
    have e9 : ∀ k, hp.1 900 k = ia 900 k := fun k => by rw [h9.1]
    have eL2 : (hp.1 901 0).toNatClampNeg = L := by rw [h9.2]; show (ia 901 0).toNatClampNeg = L; rw [eL]; exact zcln (by omega)
    rw [bg241_1246, eL2, show nI i + 1 = nI (i + 1) from ns i, zg (by omega) (by omega), zcln (show i + 1 < 100000 by omega), e9 (i + 1)]
    exact h
  · obtain ⟨s0, rfl⟩ := hx
    rw [b241_1256, if_pos rfl, z1473]
    exact hX _ _ _ _ _ _ _ hi h9 h91
theorem L_wears (hI : zInv pl dr ia la) (eL : ia 901 0 = nI L) (hL : L ≤ 384) (hi : i + 6 ≤ L) (hX : yXs ia i KL) : zWM (d + 400) 120 [.ref 0] (ia, la, zRA pl dr cp cw rp) (zK (d + 401) 241 1265 (yLs i) [] KL) := by
  refine zTwo (km := 231) (pc2 := 1269) (asM := [.ref 127]) (ty := zIsI) (by decide) zm_120 (by decide) zm_231 zIsI_t zIsI_t (fun Kc Km hc hm => T_wears (d := d)  hI hc hm) (fun x hp hx h9 h => ?_) (fun x ja lb pl dr cp cw rp hx hi h9 h91 => ?_)
  · obtain ⟨s0, rfl⟩ := hx
    have e9 : ∀ k, hp.1 900 k = ia 900 k := fun k => by rw [h9.1]
    have eL2 : (hp.1 901 0).toNatClampNeg = L := by rw [h9.2]; show (ia 901 0).toNatClampNeg = L; rw [eL]; exact zcln (by omega)
    rw [bg241_1265]
    exact h
  · obtain ⟨s0, rfl⟩ := hx
    rw [b241_1269, if_pos rfl, z1473]
    exact hX _ _ _ _ _ _ _ hi h9 h91
theorem L_ask (hI : zInv pl dr ia la) (eL : ia 901 0 = nI L) (hL : L ≤ 384) (hi : i + 6 ≤ L) (hX : yXs ia i KL) : zWM (d + 400) 122 [.ref 0, .int (ia 900 (i + 1)), .int (ia 900 (i + 2))] (ia, la, zRA pl dr cp cw rp) (zK (d + 401) 241 1290 (yLs i) [] KL) := by
  refine zTwo (km := 232) (pc2 := 1306) (asM := [.ref 127, .int (ia 900 (i + 1)), .int (ia 900 (i + 2))]) (ty := zIsI) (by decide) zm_122 (by decide) zm_232 zIsI_t zIsI_t (fun Kc Km hc hm => T_ask (d := d) (x1 := ia 900 (i + 1)) (x2 := ia 900 (i + 2)) hI hc hm) (fun x hp hx h9 h => ?_) (fun x ja lb pl dr cp cw rp hx hi h9 h91 => ?_)
  · obtain ⟨s0, rfl⟩ := hx
    have e9 : ∀ k, hp.1 900 k = ia 900 k := fun k => by rw [h9.1]
    have eL2 : (hp.1 901 0).toNatClampNeg = L := by rw [h9.2]; show (ia 901 0).toNatClampNeg = L; rw [eL]; exact zcln (by omega)
    rw [bg241_1290, eL2, show nI i + 1 = nI (i + 1) from ns i, show nI i + 2 = nI (i + 2) from by rw [show (2 : Int32) = nI 2 from rfl, nI_add], zg (by omega) (by omega), zg (by omega) (by omega), zcln (show i + 1 < 100000 by omega), zcln (show i + 2 < 100000 by omega), e9 (i + 1), e9 (i + 2)]
    exact h
  · obtain ⟨s0, rfl⟩ := hx
    rw [b241_1306, if_pos rfl, z1473]
    exact hX _ _ _ _ _ _ _ hi h9 h91
theorem L_chance (hI : zInv pl dr ia la) (eL : ia 901 0 = nI L) (hL : L ≤ 384) (hi : i + 6 ≤ L) (hX : yXs ia i KL) : zWM (d + 400) 115 [.ref 0, .int (ia 900 (i + 1)), .int (ia 900 (i + 2)), .int (ia 900 (i + 3))] (ia, la, zRA pl dr cp cw rp) (zK (d + 401) 241 1333 (yLs i) [] KL) := by
  refine zTwo (km := 233) (pc2 := 1355) (asM := [.ref 127, .int (ia 900 (i + 1)), .int (ia 900 (i + 2)), .int (ia 900 (i + 3))]) (ty := zIsI) (by decide) zm_115 (by decide) zm_233 zIsI_t zIsI_t (fun Kc Km hc hm => T_chance (d := d) (x1 := ia 900 (i + 1)) (x2 := ia 900 (i + 2)) (x3 := ia 900 (i + 3)) hI hc hm) (fun x hp hx h9 h => ?_) (fun x ja lb pl dr cp cw rp hx hi h9 h91 => ?_)
  · obtain ⟨s0, rfl⟩ := hx
    have e9 : ∀ k, hp.1 900 k = ia 900 k := fun k => by rw [h9.1]
    have eL2 : (hp.1 901 0).toNatClampNeg = L := by rw [h9.2]; show (ia 901 0).toNatClampNeg = L; rw [eL]; exact zcln (by omega)
    rw [bg241_1333, eL2, show nI i + 1 = nI (i + 1) from ns i, show nI i + 2 = nI (i + 2) from by rw [show (2 : Int32) = nI 2 from rfl, nI_add], show nI i + 3 = nI (i + 3) from by rw [show (3 : Int32) = nI 3 from rfl, nI_add], zg (by omega) (by omega), zg (by omega) (by omega), zg (by omega) (by omega), zcln (show i + 1 < 100000 by omega), zcln (show i + 2 < 100000 by omega), zcln (show i + 3 < 100000 by omega), e9 (i + 1), e9 (i + 2), e9 (i + 3)]
    exact h
  · obtain ⟨s0, rfl⟩ := hx
    rw [b241_1355, if_pos rfl, z1473]
    exact hX _ _ _ _ _ _ _ hi h9 h91
theorem L_tried (hI : zInv pl dr ia la) (eL : ia 901 0 = nI L) (hL : L ≤ 384) (hi : i + 6 ≤ L) (hX : yXs ia i KL) : zWM (d + 400) 116 [.ref 0, .int (ia 900 (i + 1)), .int (ia 900 (i + 2)), .int (ia 900 (i + 3))] (ia, la, zRA pl dr cp cw rp) (zK (d + 401) 241 1382 (yLs i) [] KL) := by
  refine zTwo (km := 234) (pc2 := 1404) (asM := [.ref 127, .int (ia 900 (i + 1)), .int (ia 900 (i + 2)), .int (ia 900 (i + 3))]) (ty := zIsI) (by decide) zm_116 (by decide) zm_234 zIsI_t zIsI_t (fun Kc Km hc hm => T_tried (d := d) (x1 := ia 900 (i + 1)) (x2 := ia 900 (i + 2)) (x3 := ia 900 (i + 3)) hI hc hm) (fun x hp hx h9 h => ?_) (fun x ja lb pl dr cp cw rp hx hi h9 h91 => ?_)
  · obtain ⟨s0, rfl⟩ := hx
    have e9 : ∀ k, hp.1 900 k = ia 900 k := fun k => by rw [h9.1]
    have eL2 : (hp.1 901 0).toNatClampNeg = L := by rw [h9.2]; show (ia 901 0).toNatClampNeg = L; rw [eL]; exact zcln (by omega)
    rw [bg241_1382, eL2, show nI i + 1 = nI (i + 1) from ns i, show nI i + 2 = nI (i + 2) from by rw [show (2 : Int32) = nI 2 from rfl, nI_add], show nI i + 3 = nI (i + 3) from by rw [show (3 : Int32) = nI 3 from rfl, nI_add], zg (by omega) (by omega), zg (by omega) (by omega), zg (by omega) (by omega), zcln (show i + 1 < 100000 by omega), zcln (show i + 2 < 100000 by omega), zcln (show i + 3 < 100000 by omega), e9 (i + 1), e9 (i + 2), e9 (i + 3)]
    exact h
  · obtain ⟨s0, rfl⟩ := hx
    rw [b241_1404, if_pos rfl, z1473]
    exact hX _ _ _ _ _ _ _ hi h9 h91
theorem L_undo (hI : zInv pl dr ia la) (eL : ia 901 0 = nI L) (hL : L ≤ 384) (hi : i + 6 ≤ L) (hX : yXs ia i KL) : zWM (d + 400) 124 [.ref 0] (ia, la, zRA pl dr cp cw rp) (zK (d + 401) 241 1413 (yLs i) [] KL) := by
  refine zTwo (km := 235) (pc2 := 1417) (asM := [.ref 127]) (ty := zIsI) (by decide) zm_124 (by decide) zm_235 zIsI_t zIsI_t (fun Kc Km hc hm => T_undo (d := d)  hI hc hm) (fun x hp hx h9 h => ?_) (fun x ja lb pl dr cp cw rp hx hi h9 h91 => ?_)
  · obtain ⟨s0, rfl⟩ := hx
    have e9 : ∀ k, hp.1 900 k = ia 900 k := fun k => by rw [h9.1]
    have eL2 : (hp.1 901 0).toNatClampNeg = L := by rw [h9.2]; show (ia 901 0).toNatClampNeg = L; rw [eL]; exact zcln (by omega)
    rw [bg241_1413]
    exact h
  · obtain ⟨s0, rfl⟩ := hx
    rw [b241_1417, if_pos rfl, z1473]
    exact hX _ _ _ _ _ _ _ hi h9 h91
theorem L_keep (hI : zInv pl dr ia la) (eL : ia 901 0 = nI L) (hL : L ≤ 384) (hi : i + 6 ≤ L) (hX : yXs ia i KL) : zWM (d + 400) 125 [.ref 0] (ia, la, zRA pl dr cp cw rp) (zK (d + 401) 241 1426 (yLs i) [] KL) := by
  refine zTwo (km := 236) (pc2 := 1430) (asM := [.ref 127]) (ty := zIsI) (by decide) zm_125 (by decide) zm_236 zIsI_t zIsI_t (fun Kc Km hc hm => T_keep (d := d)  hI hc hm) (fun x hp hx h9 h => ?_) (fun x ja lb pl dr cp cw rp hx hi h9 h91 => ?_)
  · obtain ⟨s0, rfl⟩ := hx
    have e9 : ∀ k, hp.1 900 k = ia 900 k := fun k => by rw [h9.1]
    have eL2 : (hp.1 901 0).toNatClampNeg = L := by rw [h9.2]; show (ia 901 0).toNatClampNeg = L; rw [eL]; exact zcln (by omega)
    rw [bg241_1426]
    exact h
  · obtain ⟨s0, rfl⟩ := hx
    rw [b241_1430, if_pos rfl, z1473]
    exact hX _ _ _ _ _ _ _ hi h9 h91
theorem L_back (hI : zInv pl dr ia la) (eL : ia 901 0 = nI L) (hL : L ≤ 384) (hi : i + 6 ≤ L) (hX : yXs ia i KL) : zWM (d + 400) 126 [.ref 0] (ia, la, zRA pl dr cp cw rp) (zK (d + 401) 241 1439 (yLs i) [] KL) := by
  refine zTwo (km := 237) (pc2 := 1443) (asM := [.ref 127]) (ty := zIsI) (by decide) zm_126 (by decide) zm_237 zIsI_t zIsI_t (fun Kc Km hc hm => T_back (d := d)  hI hc hm) (fun x hp hx h9 h => ?_) (fun x ja lb pl dr cp cw rp hx hi h9 h91 => ?_)
  · obtain ⟨s0, rfl⟩ := hx
    have e9 : ∀ k, hp.1 900 k = ia 900 k := fun k => by rw [h9.1]
    have eL2 : (hp.1 901 0).toNatClampNeg = L := by rw [h9.2]; show (ia 901 0).toNatClampNeg = L; rw [eL]; exact zcln (by omega)
    rw [bg241_1439]
    exact h
  · obtain ⟨s0, rfl⟩ := hx
    rw [b241_1443, if_pos rfl, z1473]
    exact hX _ _ _ _ _ _ _ hi h9 h91
theorem L_count (hI : zInv pl dr ia la) (eL : ia 901 0 = nI L) (hL : L ≤ 384) (hi : i + 6 ≤ L) (hX : yXs ia i KL) : zWM (d + 400) 127 [.ref 0, .int (ia 900 (i + 1))] (ia, la, zRA pl dr cp cw rp) (zK (d + 401) 241 1458 (yLs i) [] KL) := by
  refine zTwo (km := 239) (pc2 := 1468) (asM := [.ref 127, .int (ia 900 (i + 1))]) (ty := zIsI) (by decide) zm_127 (by decide) zm_239 zIsI_t zIsI_t (fun Kc Km hc hm => T_count (d := d) (x1 := ia 900 (i + 1)) hI hc hm) (fun x hp hx h9 h => ?_) (fun x ja lb pl dr cp cw rp hx hi h9 h91 => ?_)
  · obtain ⟨s0, rfl⟩ := hx
    have e9 : ∀ k, hp.1 900 k = ia 900 k := fun k => by rw [h9.1]
    have eL2 : (hp.1 901 0).toNatClampNeg = L := by rw [h9.2]; show (ia 901 0).toNatClampNeg = L; rw [eL]; exact zcln (by omega)
    rw [bg241_1458, eL2, show nI i + 1 = nI (i + 1) from ns i, zg (by omega) (by omega), zcln (show i + 1 < 100000 by omega), e9 (i + 1)]
    exact h
  · obtain ⟨s0, rfl⟩ := hx
    rw [b241_1468, if_pos rfl, z1473]
    exact hX _ _ _ _ _ _ _ hi h9 h91
theorem L_step (hI : zInv pl dr ia la) (eL : ia 901 0 = nI L) (hL : L ≤ 384) (hi : i ≤ L) (h1 : L < i + 6 → KL (some (.int 1)) (ia, la, zRA pl dr cp cw rp)) (hX : yXs ia i KL) (h4 : i + 6 ≤ L → KL (some (.long (nI i).toInt64)) (ia, la, zRA pl dr cp cw rp)) : zWP (d + 401) 241 23 (yLs i) [] (ia, la, zRA pl dr cp cw rp) KL := by
  have eL2 : (ia 901 0).toNatClampNeg = L := by rw [eL]; exact zcln (by omega)
  rw [b241_23]
  by_cases c : L < i + 6
  · rw [if_pos (show ia 901 0 - 6 < nI i by rw [eL]; exact (zLen hL hi).mpr c)]
    exact h1 c
  have c6 : i + 6 ≤ L := by omega
  rw [if_neg (show ¬ ia 901 0 - 6 < nI i by rw [eL]; exact fun z => c ((zLen hL hi).mp z)), eL2, zg (by omega) (by omega), zcln (show i < 100000 by omega), show nI i + 1 = nI (i + 1) from ns i, show nI i + 2 = nI (i + 2) from by rw [show (2 : Int32) = nI 2 from rfl, nI_add], show nI i + 3 = nI (i + 3) from by rw [show (3 : Int32) = nI 3 from rfl, nI_add], show nI i + 4 = nI (i + 4) from by rw [show (4 : Int32) = nI 4 from rfl, nI_add], show nI i + 5 = nI (i + 5) from by rw [show (5 : Int32) = nI 5 from rfl, nI_add]]
  have g : ∀ {k : Nat} {a : Prop}, k < 6 → (vp_in (nI (i + k)) L ∧ a) = a := fun {k} {a} hk => zg (by omega) (by omega)
  rw [zcln (show i + 1 < 100000 by omega), zcln (show i + 2 < 100000 by omega), zcln (show i + 3 < 100000 by omega), zcln (show i + 4 < 100000 by omega), zcln (show i + 5 < 100000 by omega)]
  by_cases k0 : ia 900 i &&& 63 = 0
  · rw [if_pos k0, g (by decide), g (by decide), g (by decide), g (by decide), g (by decide)]; exact L_feed hI eL hL c6 hX
  rw [if_neg k0]
  by_cases k1 : ia 900 i &&& 63 = 1
  · rw [if_pos k1, g (by decide)]; exact L_text hI eL hL c6 hX
  rw [if_neg k1]
  by_cases k2 : ia 900 i &&& 63 = 2
  · rw [if_pos k2, g (by decide)]; exact L_fault hI eL hL c6 hX
  rw [if_neg k2]
  by_cases k3 : ia 900 i &&& 63 = 3
  · rw [if_pos k3, g (by decide)]; exact L_named hI eL hL c6 hX
  rw [if_neg k3]
  by_cases k4 : ia 900 i &&& 63 = 4
  · rw [if_pos k4, z348]; exact h4 c6
  rw [if_neg k4]
  by_cases k5 : ia 900 i &&& 63 = 5
  · rw [if_pos k5, g (by decide), g (by decide)]; exact L_man hI eL hL c6 hX
  rw [if_neg k5]
  by_cases k6 : ia 900 i &&& 63 = 6
  · rw [if_pos k6, g (by decide), g (by decide)]; exact L_letter hI eL hL c6 hX
  rw [if_neg k6]
  by_cases k7 : ia 900 i &&& 63 = 7
  · rw [if_pos k7, g (by decide), g (by decide), g (by decide), g (by decide)]; exact L_law hI eL hL c6 hX
  rw [if_neg k7]
  by_cases k8 : ia 900 i &&& 63 = 8
  · rw [if_pos k8, g (by decide), g (by decide), g (by decide), g (by decide)]; exact L_let hI eL hL c6 hX
  rw [if_neg k8]
  by_cases k9 : ia 900 i &&& 63 = 9
  · rw [if_pos k9, g (by decide)]; exact L_end hI eL hL c6 hX
  rw [if_neg k9]
  by_cases k10 : ia 900 i &&& 63 = 10
  · rw [if_pos k10, g (by decide)]; exact L_teach hI eL hL c6 hX
  rw [if_neg k10]
  by_cases k11 : ia 900 i &&& 63 = 11
  · rw [if_pos k11, g (by decide)]; exact L_go hI eL hL c6 hX
  rw [if_neg k11]
  by_cases k12 : ia 900 i &&& 63 = 12
  · rw [if_pos k12, g (by decide), g (by decide), g (by decide)]; exact L_ahead hI eL hL c6 hX
  rw [if_neg k12]
  by_cases k13 : ia 900 i &&& 63 = 13
  · rw [if_pos k13, g (by decide)]; exact L_free hI eL hL c6 hX
  rw [if_neg k13]
  by_cases k14 : ia 900 i &&& 63 = 14
  · rw [if_pos k14, g (by decide), g (by decide)]; exact L_apart hI eL hL c6 hX
  rw [if_neg k14]
  by_cases k15 : ia 900 i &&& 63 = 15
  · rw [if_pos k15, g (by decide)]; exact L_like hI eL hL c6 hX
  rw [if_neg k15]
  by_cases k16 : ia 900 i &&& 63 = 16
  · rw [if_pos k16, g (by decide), g (by decide)]; exact L_could hI eL hL c6 hX
  rw [if_neg k16]
  by_cases k17 : ia 900 i &&& 63 = 17
  · rw [if_pos k17, g (by decide)]; exact L_match hI eL hL c6 hX
  rw [if_neg k17]
  by_cases k18 : ia 900 i &&& 63 = 18
  · rw [if_pos k18, g (by decide), g (by decide)]; exact L_auction hI eL hL c6 hX
  rw [if_neg k18]
  by_cases k19 : ia 900 i &&& 63 = 19
  · rw [if_pos k19]; exact L_putOff hI eL hL c6 hX
  rw [if_neg k19]
  by_cases k20 : ia 900 i &&& 63 = 20
  · rw [if_pos k20, g (by decide), g (by decide)]; exact L_ring hI eL hL c6 hX
  rw [if_neg k20]
  by_cases k21 : ia 900 i &&& 63 = 21
  · rw [if_pos k21, g (by decide)]; exact L_lessons hI eL hL c6 hX
  rw [if_neg k21]
  by_cases k22 : ia 900 i &&& 63 = 22
  · rw [if_pos k22, g (by decide), g (by decide)]; exact L_rests hI eL hL c6 hX
  rw [if_neg k22]
  by_cases k23 : ia 900 i &&& 63 = 23
  · rw [if_pos k23, g (by decide), g (by decide), g (by decide)]; exact L_rest hI eL hL c6 hX
  rw [if_neg k23]
  by_cases k24 : ia 900 i &&& 63 = 24
  · rw [if_pos k24, g (by decide), g (by decide)]; exact L_quiet hI eL hL c6 hX
  rw [if_neg k24]
  by_cases k25 : ia 900 i &&& 63 = 25
  · rw [if_pos k25, g (by decide), g (by decide), g (by decide), g (by decide), g (by decide)]
    by_cases c5 : ia 900 (i + 5) = 0
    · rw [if_pos c5]; exact L_see hI eL hL c6 (by rw [if_pos c5]) hX
    · rw [if_neg c5]; exact L_see hI eL hL c6 (by rw [if_neg c5]) hX
  rw [if_neg k25]
  by_cases k26 : ia 900 i &&& 63 = 26
  · rw [if_pos k26, g (by decide)]; exact L_strike hI eL hL c6 hX
  rw [if_neg k26]
  by_cases k27 : ia 900 i &&& 63 = 27
  · rw [if_pos k27, g (by decide)]; exact L_known hI eL hL c6 hX
  rw [if_neg k27]
  by_cases k28 : ia 900 i &&& 63 = 28
  · rw [if_pos k28]; exact L_wears hI eL hL c6 hX
  rw [if_neg k28]
  by_cases k29 : ia 900 i &&& 63 = 29
  · rw [if_pos k29, g (by decide), g (by decide)]; exact L_ask hI eL hL c6 hX
  rw [if_neg k29]
  by_cases k30 : ia 900 i &&& 63 = 30
  · rw [if_pos k30, g (by decide), g (by decide), g (by decide)]; exact L_chance hI eL hL c6 hX
  rw [if_neg k30]
  by_cases k31 : ia 900 i &&& 63 = 31
  · rw [if_pos k31, g (by decide), g (by decide), g (by decide)]; exact L_tried hI eL hL c6 hX
  rw [if_neg k31]
  by_cases k32 : ia 900 i &&& 63 = 32
  · rw [if_pos k32]; exact L_undo hI eL hL c6 hX
  rw [if_neg k32]
  by_cases k33 : ia 900 i &&& 63 = 33
  · rw [if_pos k33]; exact L_keep hI eL hL c6 hX
  rw [if_neg k33]
  by_cases k34 : ia 900 i &&& 63 = 34
  · rw [if_pos k34]; exact L_back hI eL hL c6 hX
  rw [if_neg k34]
  by_cases k35 : ia 900 i &&& 63 = 35
  · rw [if_pos k35, g (by decide)]; exact L_count hI eL hL c6 hX
  rw [if_neg k35]
  rw [z1473]
  exact hX _ _ _ _ _ _ _ hI rfl rfl
end ZP
