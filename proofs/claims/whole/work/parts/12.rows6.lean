section RS
variable {M : Mt} {X : Xt} {σ : St} {pc : Nat} {L : List (Nat × Value)} {st : List Value}
/-- a call of an inherited method: the name x, the code y -/
theorem g_callU {σ1 : St} {Mc : Mt} {x y : MethodName} {a ci n idx : Nat} {C : String} {T : u_T} {N : Nat} {as : List Value} {o : Option Value} {st0 : List Value} (hd : decode M.1 pc = .ok (.invokevirtual idx, 3)) (hcon : Con Mc y X.1 σ (rv a :: as) σ1 o) (hok : CallOk M Mc y n) (hκ : sK σ a = ci + 1) (hc : vwCl[ci]? = some (C, T, N))
    (hl : Cond.methodLink M.2.2.1 idx x ∈ TB) (hsm : Cond.sameMethod x.cls y.cls x.name x.desc ∈ TB) (hin : Cond.instanceMethod y ∈ TB) (hse : Cond.selects C x y ∈ TB) (hyx : y = ⟨y.cls, x.name, x.desc⟩) (hn : as.length = n) (hst : (st.map fun v => v.category).sum ≤ 8) (hs0 : st0 = as.reverse ++ rv a :: st) (kk : G M X σ1 (pc + 3) L (o.toList ++ st)) : G M X σ pc L st0 := by
  subst hs0
  obtain ⟨k1, k2, k3, k4, k5, k6⟩ := hok
  refine g_run hcon kk fun p e R s m args below meth c Q D hC H locs k n9 ls a1 a6 hroom => ?_
  obtain ⟨hx, hb, hml, hown, hts, hNW, hlk, hrt, ⟨r1, r2, r3, r4⟩, hini9, hQ, hXX⟩ := id hC
  have ha0 : a ≠ 0 := a1.ne0 (by omega)
  have hcon2 := hcon.2 D
  rw [rv_pos ha0] at hcon2 ⊢
  have hG : GoodIn TB (va_wsU M.2.2.1 idx C y.cls x y (.code y Mc.1 Mc.2.1 Mc.2.2.2.1 :: TB)) := goodCons hl (goodCons hsm (goodCons hse (goodCons hin (goodCons k6 (goodCons k1 goodTB)))))
  exact va_runU (Ts := TB) (nL := M.2.1) (As := as) ⟨hx, hb, hml, hown, hts⟩ hcon2 (va_cwU n hts hG rfl rfl rfl hyx ⟨k4.1, k4.2, by rw [← show y.desc = x.desc from by rw [hyx]]; exact k5⟩ ⟨by rw [r1]; exact k2, by rw [r2]; exact k3⟩) ⟨Con.blind, recv9 a1 hκ hc, Con.pre a1 hNW⟩ rfl hn (a6.trans hml) rfl (lv_room hst) hd hroom
/-- super's method -/
theorem g_callSU {σ1 : St} {Mc : Mt} {y : MethodName} {a ci n idx : Nat} {C : String} {T : u_T} {N : Nat} {as : List Value} {o : Option Value} {st0 : List Value} (hd : decode M.1 pc = .ok (.invokespecial idx, 3)) (hcon : Con Mc y X.1 σ (rv a :: as) σ1 o) (hok : CallOk M Mc y n) (hκ : sK σ a = ci + 1) (hc : vwCl[ci]? = some (C, T, N)) (hCo : C = M.2.2.1)
    (hl : Cond.methodLink M.2.2.1 idx y ∈ TB) (hsm : Cond.sameMethod y.cls y.cls y.name y.desc ∈ TB) (hsu : Cond.superclass M.2.2.1 y.cls ∈ TB) (hin : Cond.instanceMethod y ∈ TB) (hno : y.name ≠ "<init>") (hn : as.length = n) (hst : (st.map fun v => v.category).sum ≤ 8) (hs0 : st0 = as.reverse ++ rv a :: st) (kk : G M X σ1 (pc + 3) L (o.toList ++ st)) : G M X σ pc L st0 := by
  subst hs0
  obtain ⟨k1, k2, k3, k4, k5, k6⟩ := hok
  refine g_run hcon kk fun p e R s m args below meth c Q D hC H locs k n9 ls a1 a6 hroom => ?_
  obtain ⟨hx, hb, hml, hown, hts, hNW, hlk, hrt, ⟨r1, r2, r3, r4⟩, hini9, hQ, hXX⟩ := id hC
  have ha0 : a ≠ 0 := a1.ne0 (by omega)
  have hcon2 := hcon.2 D
  rw [rv_pos ha0] at hcon2 ⊢
  have hG : GoodIn TB (va_wsSU M.2.2.1 idx y (.code y Mc.1 Mc.2.1 Mc.2.2.2.1 :: TB)) := goodCons hl (goodCons hsm (goodCons hsu (goodCons hin (goodCons k6 (goodCons k1 goodTB)))))
  subst hCo
  exact va_runSU (Ts := TB) (nL := M.2.1) (As := as) (a1.2.2.1.1 ci _ hc).2 ⟨hx, hb, hml, hown, hts⟩ hcon2 (va_cwSU n hts hG rfl rfl rfl ⟨hno, k5⟩ ⟨by rw [r1]; exact k2, by rw [r2]; exact k3⟩) ⟨Con.blind, recv9 a1 hκ hc, Con.pre a1 hNW⟩ rfl hn (a6.trans hml) rfl (lv_room hst) hd hroom
/-! ===== switches ===== -/
theorem g_tsIn {x v : Int32} {dflt lo hi off : Int} {offs : Array Int} {len tgt : Nat} (hd : decode M.1 pc = .ok (.tableswitch dflt lo hi offs, len)) (hx : x = v) (h1 : ¬ v.toInt < lo) (h2 : ¬ hi < v.toInt) (ho : offs[(v.toInt - lo).toNat]? = some off) (ht : (pc : Int) + off = (tgt : Int)) (kk : G M X σ tgt L st) : G M X σ pc L (.int x :: st) := by
  subst hx
  exact ⟨kk.1, fun p e R s m args below meth c Q D hC H locs k n ls a1 a2 a3 a4 a5 a6 => lv_tableIn hC.1 hC.2.1 hd h1 h2 ho ht (kk.2 p e R s m args below meth c Q D hC H locs k n ls a1 a2 a3 a4 a5 a6)⟩
theorem g_tsOut {x : Int32} {dflt lo hi : Int} {offs : Array Int} {len tgt : Nat} (hd : decode M.1 pc = .ok (.tableswitch dflt lo hi offs, len)) (h : x.toInt < lo ∨ hi < x.toInt) (ht : (pc : Int) + dflt = (tgt : Int)) (kk : G M X σ tgt L st) : G M X σ pc L (.int x :: st) :=
  ⟨kk.1, fun p e R s m args below meth c Q D hC H locs k n ls a1 a2 a3 a4 a5 a6 => lv_tableOut hC.1 hC.2.1 hd h ht (kk.2 p e R s m args below meth c Q D hC H locs k n ls a1 a2 a3 a4 a5 a6)⟩
theorem g_lsw {x : Int32} {dflt : Int} {ps : Array (Int × Int)} {off : Int} {len tgt : Nat} (hd : decode M.1 pc = .ok (.lookupswitch dflt ps, len)) (hp : (ps.toList.zip (ps.toList.drop 1)).all (fun (a, next) => a.1 < next.1) = true) (ho : Op.lookupswitch.offset ps.toList dflt x.toInt = off) (ht : (pc : Int) + off = (tgt : Int)) (kk : G M X σ tgt L st) : G M X σ pc L (.int x :: st) :=
  ⟨kk.1, fun p e R s m args below meth c Q D hC H locs k n ls a1 a2 a3 a4 a5 a6 => lv_lookup hC.1 hC.2.1 hd hp ho ht (kk.2 p e R s m args below meth c Q D hC H locs k n ls a1 a2 a3 a4 a5 a6)⟩
/-! ===== Math ===== -/
theorem g_mmax {x y : Int32} {idx : Nat} (hd : decode M.1 pc = .ok (.invokestatic idx, 3)) (hlink : Cond.methodLink M.2.2.1 idx Lib.Math.max.name ∈ TB) (hstat : Cond.static Lib.Math.max.name ∈ TB) (hini : Cond.initialized "java/lang/Math" ∈ TB) (hcode : Cond.code Lib.Math.max.name Lib.Math.max.code 2 (some .int) ∈ TB) (hfr : 1 ≤ M.2.2.2.2.1) (hlo : 40 ≤ M.2.2.2.2.2.1) (hst : st.length ≤ 8)
    (kk : G M X σ (pc + 3) L (.int (if x < y then y else x) :: st)) : G M X σ pc L (.int y :: .int x :: st) := by
  refine ⟨kk.1, fun p e R s m args below meth c Q D hC H locs k n ls a1 a2 a3 a4 a5 a6 => ?_⟩
  have hk1 := kk.1
  obtain ⟨hx, hb, hml, hown, hts, hNW, hlk, hrt, ⟨r1, r2, r3, r4⟩, hini9, hQ, hXX⟩ := id hC
  have := cat_le st
  exact va_mmax hx hb a6.1.symm hown (hts _ hlink) (hts _ hstat) (hts _ hini) (hts _ hcode) (by omega) (by omega) (by omega) (by omega) hd (kk.2 p e R s m args below meth c Q D hC H locs k n ls a1 a2 a3 a4 a5 a6)
theorem g_mmin {x y : Int32} {idx : Nat} (hd : decode M.1 pc = .ok (.invokestatic idx, 3)) (hlink : Cond.methodLink M.2.2.1 idx Lib.Math.min.name ∈ TB) (hstat : Cond.static Lib.Math.min.name ∈ TB) (hini : Cond.initialized "java/lang/Math" ∈ TB) (hcode : Cond.code Lib.Math.min.name Lib.Math.min.code 2 (some .int) ∈ TB) (hfr : 1 ≤ M.2.2.2.2.1) (hlo : 40 ≤ M.2.2.2.2.2.1) (hst : st.length ≤ 8)
    (kk : G M X σ (pc + 3) L (.int (if y < x then y else x) :: st)) : G M X σ pc L (.int y :: .int x :: st) := by
  refine ⟨kk.1, fun p e R s m args below meth c Q D hC H locs k n ls a1 a2 a3 a4 a5 a6 => ?_⟩
  have hk1 := kk.1
  obtain ⟨hx, hb, hml, hown, hts, hNW, hlk, hrt, ⟨r1, r2, r3, r4⟩, hini9, hQ, hXX⟩ := id hC
  have := cat_le st
  exact va_mmin hx hb a6.1.symm hown (hts _ hlink) (hts _ hstat) (hts _ hini) (hts _ hcode) (by omega) (by omega) (by omega) (by omega) hd (kk.2 p e R s m args below meth c Q D hC H locs k n ls a1 a2 a3 a4 a5 a6)
theorem g_mabs {x : Int32} {idx : Nat} (hd : decode M.1 pc = .ok (.invokestatic idx, 3)) (hlink : Cond.methodLink M.2.2.1 idx Lib.Math.abs.name ∈ TB) (hstat : Cond.static Lib.Math.abs.name ∈ TB) (hini : Cond.initialized "java/lang/Math" ∈ TB) (hcode : Cond.code Lib.Math.abs.name Lib.Math.abs.code 1 (some .int) ∈ TB) (hfr : 1 ≤ M.2.2.2.2.1) (hlo : 40 ≤ M.2.2.2.2.2.1) (hst : st.length ≤ 8)
    (kk : G M X σ (pc + 3) L (.int (if 0 ≤ x then x else 0 - x) :: st)) : G M X σ pc L (.int x :: st) := by
  refine ⟨kk.1, fun p e R s m args below meth c Q D hC H locs k n ls a1 a2 a3 a4 a5 a6 => ?_⟩
  have hk1 := kk.1
  obtain ⟨hx, hb, hml, hown, hts, hNW, hlk, hrt, ⟨r1, r2, r3, r4⟩, hini9, hQ, hXX⟩ := id hC
  have := cat_le st
  exact va_mabs hx hb a6.1.symm hown (hts _ hlink) (hts _ hstat) (hts _ hini) (hts _ hcode) (by omega) (by omega) (by omega) (by omega) hd (kk.2 p e R s m args below meth c Q D hC H locs k n ls a1 a2 a3 a4 a5 a6)
theorem g_mminL {x y : Int64} {idx : Nat} (hd : decode M.1 pc = .ok (.invokestatic idx, 3)) (hlink : Cond.methodLink M.2.2.1 idx Lib.MathLoose.min_long.x ∈ TB) (hstat : Cond.static Lib.MathLoose.min_long.x ∈ TB) (hini : Cond.initialized "java/lang/Math" ∈ TB) (hcode : Cond.code Lib.MathLoose.min_long.x Lib.MathLoose.min_long.code 4 (some .long) ∈ TB) (hfr : 1 ≤ M.2.2.2.2.1) (hlo : 40 ≤ M.2.2.2.2.2.1) (hst : st.length ≤ 8)
    (kk : G M X σ (pc + 3) L (.long (if y < x then y else x) :: st)) : G M X σ pc L (.long y :: .long x :: st) := by
  refine ⟨kk.1, fun p e R s m args below meth c Q D hC H locs k n ls a1 a2 a3 a4 a5 a6 => ?_⟩
  have hk1 := kk.1
  obtain ⟨hx, hb, hml, hown, hts, hNW, hlk, hrt, ⟨r1, r2, r3, r4⟩, hini9, hQ, hXX⟩ := id hC
  have := cat_le st
  exact va_mmin_long hx hb a6.1.symm hown (hts _ hlink) (hts _ hstat) (hts _ hini) (hts _ hcode) (by omega) (by omega) (by omega) (by omega) hd (kk.2 p e R s m args below meth c Q D hC H locs k n ls a1 a2 a3 a4 a5 a6)
/-! ===== floats and doubles ===== -/
theorem g_dconst0 (hd : decode M.1 pc = .ok (.dconst 0, 1)) (kk : G M X σ (pc + 1) L (.double 0 :: st)) : G M X σ pc L st :=
  ⟨kk.1, fun p e R s m args below meth c Q D hC H locs k n ls a1 a2 a3 a4 a5 a6 => lv_dconst0 hC.1 hC.2.1 hd (kk.2 p e R s m args below meth c Q D hC H locs k n ls a1 a2 a3 a4 a5 a6)⟩
theorem g_i2d {x : Int32} (hd : decode M.1 pc = .ok (.i2d, 1)) (kk : G M X σ (pc + 1) L (.double (FP.i2d x) :: st)) : G M X σ pc L (.int x :: st) :=
  ⟨kk.1, fun p e R s m args below meth c Q D hC H locs k n ls a1 a2 a3 a4 a5 a6 => lv_i2d hC.1 hC.2.1 hd (kk.2 p e R s m args below meth c Q D hC H locs k n ls a1 a2 a3 a4 a5 a6)⟩
theorem g_i2f {x : Int32} (hd : decode M.1 pc = .ok (.i2f, 1)) (kk : G M X σ (pc + 1) L (.float (FP.i2f x) :: st)) : G M X σ pc L (.int x :: st) :=
  ⟨kk.1, fun p e R s m args below meth c Q D hC H locs k n ls a1 a2 a3 a4 a5 a6 => lv_i2f hC.1 hC.2.1 hd (kk.2 p e R s m args below meth c Q D hC H locs k n ls a1 a2 a3 a4 a5 a6)⟩
theorem g_ddiv {x y : UInt64} (hd : decode M.1 pc = .ok (.ddiv, 1)) (hne : vf_n64 (FP.ddiv x y)) (kk : G M X σ (pc + 1) L (.double (FP.ddiv x y) :: st)) : G M X σ pc L (.double y :: .double x :: st) :=
  ⟨kk.1, fun p e R s m args below meth c Q D hC H locs k n ls a1 a2 a3 a4 a5 a6 => lv_ddiv hC.1 hC.2.1 hd hne (kk.2 p e R s m args below meth c Q D hC H locs k n ls a1 a2 a3 a4 a5 a6)⟩
theorem g_fdiv {x y : UInt32} (hd : decode M.1 pc = .ok (.fdiv, 1)) (hne : vf_n32 (FP.fdiv x y)) (kk : G M X σ (pc + 1) L (.float (FP.fdiv x y) :: st)) : G M X σ pc L (.float y :: .float x :: st) :=
  ⟨kk.1, fun p e R s m args below meth c Q D hC H locs k n ls a1 a2 a3 a4 a5 a6 => lv_fdiv hC.1 hC.2.1 hd hne (kk.2 p e R s m args below meth c Q D hC H locs k n ls a1 a2 a3 a4 a5 a6)⟩
theorem g_ldcF {idx : Nat} {v : UInt32} (hd : decode M.1 pc = .ok (.ldc idx, 2)) (hc : Cond.constantFloat M.2.2.1 idx v ∈ TB) (kk : G M X σ (pc + 2) L (.float v :: st)) : G M X σ pc L st :=
  ⟨kk.1, fun p e R s m args below meth c Q D hC H locs k n ls a1 a2 a3 a4 a5 a6 => lv_ldcf hC.1 hC.2.1 hC.2.2.2.1 (hC.2.2.2.2.1 _ hc) hd (kk.2 p e R s m args below meth c Q D hC H locs k n ls a1 a2 a3 a4 a5 a6)⟩
theorem g_dret {v r : UInt64} (hd : decode M.1 pc = .ok (.dreturn, 1)) (hrt : M.2.2.2.1 = some .double) (hX : X.2.2.2 = .inl (some (.double r))) {σf : St} (hf9 : X.2.2.1 = σf) (hf : some (σ, v) = some (σf, r)) : G M X σ pc L [.double v] := by
  cases hf
  subst hf9
  refine ⟨⟨Nat.le_refl _, Nat.le_refl _⟩, fun p e R s m args below meth c Q D hC H locs k n ls a1 a2 a3 a4 a5 a6 => ?_⟩
  obtain ⟨hx, hb, hml, hown, hts, hNW, hlk, hrt9, ⟨r1, r2, r3, r4⟩, hini9, hQ, hXX⟩ := id hC
  rw [hQ, QE_inl hX, show sc X.2.2.1 - sc X.2.1 = k by omega, show sw X.2.2.1 - sw X.2.1 = n by omega]
  exact W.dret hx hb (hrt9.trans hrt) (fun t ht hW => end9 a1 a2 a3 ht hW) a2.2.2 hd hlk
theorem g_fret {v r : UInt32} (hd : decode M.1 pc = .ok (.freturn, 1)) (hrt : M.2.2.2.1 = some .float) (hX : X.2.2.2 = .inl (some (.float r))) {σf : St} (hf9 : X.2.2.1 = σf) (hf : some (σ, v) = some (σf, r)) : G M X σ pc L [.float v] := by
  cases hf
  subst hf9
  refine ⟨⟨Nat.le_refl _, Nat.le_refl _⟩, fun p e R s m args below meth c Q D hC H locs k n ls a1 a2 a3 a4 a5 a6 => ?_⟩
  obtain ⟨hx, hb, hml, hown, hts, hNW, hlk, hrt9, ⟨r1, r2, r3, r4⟩, hini9, hQ, hXX⟩ := id hC
  rw [hQ, QE_inl hX, show sc X.2.2.1 - sc X.2.1 = k by omega, show sw X.2.2.1 - sw X.2.1 = n by omega]
  exact W.fret hx hb (hrt9.trans hrt) (fun t ht hW => end9 a1 a2 a3 ht hW) a2.2.2 hd hlk
/-! ===== System.arraycopy, of bytes or ints ===== -/
def wAs (σ : St) (a : Nat) (f : Nat → Int32) : St := (sK σ, sI σ, sF σ, sN σ, fun b j => if b = a then f j else sA σ b j, sJ σ, sQ σ, sz σ, sc σ, sw σ)
def okB (x : Int32) : Bool := decide (-128 ≤ x) && decide (x ≤ 127)
def acp (σ : St) (ti a0 : Nat) (sp : Int32) (a : Nat) (dp n : Int32) : Option St :=
  if sK σ a0 = 100 + ti ∧ sK σ a = 100 + ti ∧ ¬ sp < 0 ∧ ¬ dp < 0 ∧ ¬ n < 0 ∧ sp.toNatClampNeg + n.toNatClampNeg ≤ sN σ a0 ∧ dp.toNatClampNeg + n.toNatClampNeg ≤ sN σ a ∧ (ti = 0 ∨ ∀ i, i < n.toNatClampNeg → okB (sA σ a0 (sp.toNatClampNeg + i)) = true)
  then some (wAs σ a (va_cpy (sA σ a0) (sA σ a) sp.toNatClampNeg dp.toNatClampNeg n.toNatClampNeg)) else none
theorem acp_el {σ1 : St} {ti a0 a : Nat} {sp dp n : Int32} (h : acp σ ti a0 sp a dp n = some σ1) : (sK σ a0 = 100 + ti ∧ sK σ a = 100 + ti ∧ ¬ sp < 0 ∧ ¬ dp < 0 ∧ ¬ n < 0 ∧ sp.toNatClampNeg + n.toNatClampNeg ≤ sN σ a0 ∧ dp.toNatClampNeg + n.toNatClampNeg ≤ sN σ a ∧ (ti = 0 ∨ ∀ i, i < n.toNatClampNeg → okB (sA σ a0 (sp.toNatClampNeg + i)) = true)) ∧ wAs σ a (va_cpy (sA σ a0) (sA σ a) sp.toNatClampNeg dp.toNatClampNeg n.toNatClampNeg) = σ1 := by
  unfold acp at h
  split at h
  · exact ⟨by assumption, Option.some.inj h⟩
  · cases h
theorem g_acopy {σ1 : St} {ti a0 a idx : Nat} {sp dp n : Int32} (hd : decode M.1 pc = .ok (.invokestatic idx, 3)) (e : acp σ ti a0 sp a dp n = some σ1) (hti : ti < 2) (hlink : Cond.methodLink M.2.2.1 idx arraycopyName ∈ TB) (hnat : Cond.native arraycopyName ∈ TB) (hstat : Cond.static arraycopyName ∈ TB) (hini : Cond.initialized "java/lang/System" ∈ TB) (hfr : 1 ≤ M.2.2.2.2.1) (hlo : nativeFrameWords "java/lang/System" "arraycopy" 5 + 40 ≤ M.2.2.2.2.2.1) (hst : st.length ≤ 8)
    (kk : G M X σ1 (pc + 3) L st) : G M X σ pc L (.int n :: .int dp :: rv a :: .int sp :: rv a0 :: st) := by
  obtain ⟨⟨hκ0, hκ, h1, h2, h3, h4, h5, hfit⟩, rfl⟩ := acp_el e
  refine ⟨kk.1, fun p e9 R s m args below meth c Q D hC H locs k n9 ls a1 a2 a3 a4 a5 a6 => ?_⟩
  obtain ⟨hx, hb, hml, hown, hts, hNW, hlk, hrt, ⟨r1, r2, r3, r4⟩, hini9, hQ, hXX⟩ := id hC
  have ha0 : a ≠ 0 := a1.ne0 (by omega)
  have ha9 : a0 ≠ 0 := a1.ne0 (by omega)
  rw [rv_pos ha0, rv_pos ha9]
  have hcs := cat_le st
  have nn : ∀ z : Int32, ¬ z < 0 → z.toInt = (z.toNatClampNeg : Int) := by
    intro z hz
    have hz0 : (0 : Int) ≤ z.toInt := by
      have := Int32.not_lt.mp hz
      simpa using Int32.le_iff_toInt_le.mp this
    show z.toInt = ((z.toInt.toNat : Nat) : Int)
    omega
  have ht3 : ti < 3 := by omega
  have hav : ∀ b, aval σ ti b = fun j => .int (sA σ b j) := fun b => by funext j; simp [aval, ht3]
  have hc0 := (a1.2.2.2.1 a0).2.1 ti hκ0 (by omega)
  have hc1 := (a1.2.2.2.1 a).2.1 ti hκ (by omega)
  rw [hav] at hc0 hc1
  obtain ⟨hA, -⟩ := cyT_arr (ti := ti) (by omega) a1.2.2.1
  have hprim : refKind (arT ti) = false := by
    have h9 : ti = 0 ∨ ti = 1 := by omega
    rcases h9 with rfl | rfl <;> rfl
  intro T hT Y
  obtain ⟨-, k0, hk0, cm0, hkk0⟩ := hA (sN σ a0) (fun j => .int (sA σ a0 j))
  obtain ⟨vm', X', step⟩ := Y.arraycopy hx hown (hts _ hlink) (hts _ hnat) (hts _ hstat) (hts _ hini) (src := a0 - 1) (dst := a - 1) (cs := arrV (D.2 ti) (sN σ a0) (fun j => .int (sA σ a0 j))) (cd := arrV (D.2 ti) (sN σ a) (fun j => .int (sA σ a j))) (srcPos := sp) (destPos := dp) (n := n) (by rw [hT]; exact hc0) (by rw [hT]; exact hc1)
    (fun _ h => by cases h) (fun _ h => by cases h) (fun h => by cases h) (fun h => by cases h) hk0 hk0 hkk0 hkk0 (by simp [hprim]) h1 h2 h3
    (by rw [nn sp h1, nn n h3]; show ¬ _ > ((arrV (D.2 ti) (sN σ a0) (fun j => .int (sA σ a0 j))).slots.size : Int); rw [arrV_size]; omega)
    (by rw [nn dp h2, nn n h3]; show ¬ _ > ((arrV (D.2 ti) (sN σ a) (fun j => .int (sA σ a j))).slots.size : Int); rw [arrV_size]; omega)
    (fun vm₁ _ i hi => by
      have e : (arrV (D.2 ti) (sN σ a0) (fun j => Value.int (sA σ a0 j))).slots.getD (sp.toNatClampNeg + i) .null = .int (sA σ a0 (sp.toNatClampNeg + i)) := by
        rw [Array.getD_eq_getD_getElem?, arrV_read _ _ (by omega)]
        rfl
      refine ⟨?_, ?_⟩
      · rw [e]
        rcases hfit with h0 | h0
        · subst h0; rfl
        · have h9 : ti = 0 ∨ ti = 1 := by omega
          rcases h9 with rfl | rfl
          · rfl
          · exact h0 i hi
      · rw [e]
        exact trivial)
    (g := F0 m pc ls (.int n :: .int dp :: .ref (a - 1) :: .int sp :: .ref (a0 - 1) :: st)) rfl (by show ls.size = _; exact a6.1) (rest := st) rfl (by rw [hb]; exact hd) (by omega) (by show 2 * 0 + _ + _ ≤ _; omega)
  have e1 : copied (arrV (D.2 ti) (sN σ a0) (fun j => .int (sA σ a0 j))) (arrV (D.2 ti) (sN σ a) (fun j => .int (sA σ a j))) sp dp n = arrV (D.2 ti) (sN σ a) (fun j => .int (va_cpy (sA σ a0) (sA σ a) sp.toNatClampNeg dp.toNatClampNeg n.toNatClampNeg j)) := va_copied (fun z => .int z) (D.2 ti) (D.2 ti) (sA σ a0) (sA σ a) h4
  rw [e1] at X' step
  have hl : a - 1 < H.size := (Array.getElem?_eq_some_iff.mp hc1).1
  obtain ⟨t, b1, b2⟩ := kk.2 p e9 R s m args below meth c Q D hC _ _ k n9 ls (a1.putA (ti := ti) (σ1 := wAs σ a (va_cpy (sA σ a0) (sA σ a) sp.toNatClampNeg dp.toNatClampNeg n.toNatClampNeg)) (H1 := H.setIfInBounds (a - 1) (arrV (D.2 ti) (sN σ a) (fun j => .int (va_cpy (sA σ a0) (sA σ a) sp.toNatClampNeg dp.toNatClampNeg n.toNatClampNeg j)))) hκ (by omega) (by
      rw [Array.getElem?_setIfInBounds_self_of_lt hl]
      congr 2
      funext j
      simp [aval, ht3, wAs, sA]) (by simp) (fun q hq => Array.getElem?_setIfInBounds_ne (Ne.symm hq)) rfl rfl rfl rfl (fun b j hb => if_neg hb) (fun _ _ _ => rfl) (fun _ _ _ => rfl) rfl)
    ⟨by simp; exact a2.1, fun q g1 g2 => by
      rw [Array.getElem?_setIfInBounds_ne (fun h => g2 (by rw [← h]; exact a3 _ (Fr_arr (ti := ti) ha0 hκ (by omega))))]
      exact a2.2.1 q g1 g2, fun q hq => by
      rcases List.mem_append.mp hq with h | h
      · exact a2.2.2 q h
      · obtain ⟨z, -, hz⟩ := List.mem_map.mp h
        rw [← hz]
        exact a3 _ (Fr_arr (ti := ti) ha0 hκ (by omega))⟩ a3 a4 a5 a6 _ (by rw [← hT]; rfl) X'
  exact ⟨t, step t b1, b2⟩
end RS
