/-! ===== the law: what holds between two calls, and steps of both sides ===== -/
def rst (s : Kst) (h : As × List As × List As) : Rst := (s.1, s.2.1, s.2.2.1, s.2.2.2.1, s.2.2.2.2.1, s.2.2.2.2.2.1, s.2.2.2.2.2.2.1, h.1, h.2.1, h.2.2)
def Rm (σ : St) (x i t : Nat) : Prop := sw σ + 20 * t ≤ 4055 + lsum RfL + 2 * Pot (PX x) σ + 15 * NP σ x + 2500 * i ∧ sc σ + 5 * t ≤ 144 + Pot (PX x) σ + 5 * NP σ x + 700 * i
theorem Rm.cO {σ σ' : St} {x i t t' K C : Nat} (h : Rm σ x i t) (hO : cO x K C σ σ') (h1 : K + 20 * t' ≤ 2500 + 20 * t) (h2 : C + 5 * t' ≤ 700 + 5 * t) : Rm σ' x (i + 1) t' := by
  obtain ⟨⟨k0, c0, ⟨_, _, _, _, g1, g2⟩, g3, g4⟩, _⟩ := hO
  unfold Rm at h ⊢
  omega
theorem Rm.eq {σ σ' : St} {x i t : Nat} (h : Rm σ x i t) (h1 : sw σ' = sw σ) (h2 : sc σ' = sc σ) (h3 : Pot (PX x) σ' = Pot (PX x) σ) (h4 : NP σ' x = NP σ x) : Rm σ' x i t := by
  unfold Rm at h ⊢
  rw [h1, h2, h3, h4]
  exact h
theorem Scp.cO {σ σ' : St} {x b L K C : Nat} {xs : Nat → Int32} (h : Scp σ x b L xs) (hQ : SQ σ x) (hO : cO x K C σ σ') : Scp σ' x b L xs := by
  obtain ⟨h1, h2, h3, h4⟩ := h
  obtain ⟨k0, c0, hF⟩ := cM.w hO
  have sb := hF.sam (a := b) (by omega) (Or.inl (by omega)) (by
    rintro (q | ⟨T, i, hT, g0, g⟩ | q)
    · omega
    · obtain ⟨_, ⟨f1, _, ⟨f2, _⟩, f3, _⟩, _⟩ := hQ.1 T i hT g0
      rcases g with g | g | g
      · rw [← g] at f1; omega
      · rw [← g] at f2; omega
      · rw [← g] at f3; omega
    · omega)
  have hz := hF.1.1.1.lt (a := b) (by omega)
  exact ⟨h1, hF.k h2 (by omega), ((hF.2.1.2 b hz).2.1).trans h3, fun i => (sb.2.2.1 i).trans (h4 i)⟩
/-- between two calls, or between the two sides of one -/
def Mid (x b L : Nat) (xs : Nat → Int32) (i t : Nat) (s : Kst) (c : Rct) (r : Rst) (σ : St) : Prop := (∃ o, KI σ x o s) ∧ RI σ (x + 98) c r ∧ Jn σ x ∧ Scp σ x b L xs ∧ Rm σ x i t
section
variable {x b L i t : Nat} {xs : Nat → Int32} {s s' : Kst} {c c' : Rct} {r r' : Rst} {σ σ' : St}
theorem mid_cls {t' K C : Nat} (h : Mid x b L xs i t s c r σ) (hO : cO x K C σ σ') (hK : ∃ o, KI σ' x o s') (h1 : K + 20 * t' ≤ 2500 + 20 * t) (h2 : C + 5 * t' ≤ 700 + 5 * t) : Mid x b L xs (i + 1) t' s' c r σ' := by
  obtain ⟨⟨o, k⟩, hR, hJ, hS, hm⟩ := h
  obtain ⟨g1, g2⟩ := hR.cO hJ k.1.2.1 k.1.2.2.2.2 hO
  exact ⟨hK, g1, g2, hS.cO k.1.2.2.2.2 hO, hm.cO hO h1 h2⟩
theorem mid_off {S : Nat → Prop} (h : Mid x b L xs i t s c r σ) (hF : cW x S 0 0 σ σ') (hS : ∀ r, S r → r = x + 143) (hK : ∀ a, sK σ' a = sK σ a) (hN : ∀ a, sN σ' a = sN σ a) (hFF : ∀ f a, sF σ' f a = sF σ f a) (hI : ∀ f a, sI σ' f a = sI σ f a) (hA : ∀ a, sA σ' a = sA σ a) (hQ : ∀ a j, sQ σ' a j = sQ σ a j) (e1 : sw σ' = sw σ) (e2 : sc σ' = sc σ) : Mid x b L xs i t s c r σ' := by
  obtain ⟨⟨o, k⟩, hR, hJ, ⟨s1', s2', s3', s4'⟩, hm⟩ := h
  refine ⟨⟨o, (k.off hF (fun r hr => ?_)).1⟩, hR.st (hR.1.1.of (fun j _ => hK _) (fun j _ => hN _) (fun f => hFF f _)) (fun f => hI _ _) (fun j _ _ => hA _), ⟨fun r hr a ha e => hJ.1 r hr a (by rw [← hK]; exact ha) (by rw [← e]; exact (hFF _ _).symm), (hK _).trans hJ.2.1, (hN _).trans hJ.2.2⟩, ⟨s1', (hK _).trans s2', (hN _).trans s3', fun i => (congrFun (hA b) i).trans (s4' i)⟩, hm.eq e1 e2 (Pot_same fun a _ => by show sN σ' (sF σ' (fid 7 0) a) = _; rw [hFF, hN]) ?_⟩
  · rw [hS r hr]
    exact jn_k hJ hR.1.1 (by unfold mR; omega)
  · unfold NP
    rw [NZ_same (hQ _), NZ_same (hQ _), NZ_same (hQ _)]
theorem mid_wz {z : Nat} (h : Mid x b L xs i t s c r σ) (hz : sz σ ≤ z) : Mid x b L xs i t s c r (wz σ z) := by
  obtain ⟨o, k⟩ := h.1
  exact mid_off h (cW_wz k.1.1 hz) (fun r hr => hr.elim) (fun _ => rfl) (fun _ => rfl) (fun _ _ => rfl) (fun _ _ => rfl) (fun _ => rfl) (fun _ _ => rfl) rfl rfl
theorem mid_wj {v : Int64} (h : Mid x b L xs i t s c r σ) : Mid x b L xs i t s c r (wJ σ (x + 143) 0 v) := by
  obtain ⟨o, k⟩ := h.1
  exact mid_off h (cW_wj k.1.1 (h.2.2.1.1 _ (by unfold mR; omega))) (fun r hr => hr) (fun _ => rfl) (fun _ => rfl) (fun _ _ => rfl) (fun _ _ => rfl) (fun _ => rfl) (fun _ _ => rfl) rfl rfl
/-- a call of the class that throws -/
theorem mid_th {t' K C : Nat} (h : Mid x b L xs i t s c r σ) (hO : cO x K C σ σ') (hK : ∃ o, KI σ' x o s') (h1 : K + 6 + 20 * t' ≤ 2500 + 20 * t) (h2 : C + 1 + 5 * t' ≤ 700 + 5 * t) : Mid x b L xs (i + 1) t' s' c r (th σ') := by
  obtain ⟨o, k⟩ := hK
  obtain ⟨k1, hM⟩ := k.off (cW_th k.1.1) (fun r hr => hr.elim)
  exact mid_cls h (hO.tr (hM.mo (fun r _ hr => hr.elim) (Nat.le_refl _) (Nat.le_refl _))) ⟨o, k1⟩ (by omega) (by omega)
theorem mid_ref (h : Mid x b L xs i t s c r σ) (hE : rfE (x + 98) σ σ') (hR : RI σ' (x + 98) c' r') : Mid x b L xs i t s c' r' σ' := by
  obtain ⟨⟨o, k⟩, hR0, hJ, ⟨s1', s2', s3', s4'⟩, hm⟩ := h
  have hF := cW.rfE k.1.1 hJ hR0.1.1 hE
  obtain ⟨⟨a1, a2, a3, a4, a5⟩, ⟨a6, a7, a8⟩, a9, a10⟩ := hE
  refine ⟨⟨o, (k.off hF (fun r hr => hr)).1⟩, hR, ⟨fun r hr a ha e => hJ.1 r hr a (by rw [← a1]; exact ha) (by rw [← e]; show _ = sF σ' (fid 7 0) a; rw [a2]), by rw [a1]; exact hJ.2.1, by rw [a3]; exact hJ.2.2⟩, ⟨s1', by rw [a1]; exact s2', by rw [a3]; exact s3', fun i => by rw [a10 b (by omega)]; exact s4' i⟩, hm.eq a8 a7 (Pot_same fun a _ => by show sN σ' (sF σ' (fid 7 0) a) = _; rw [a2, a3]) ?_⟩
  unfold NP NZ
  rw [a5]
/-- a call that throws nothing -/
theorem lw_v {t' K C : Nat} {val : Int} {fc : Option (St × Int32)} {fr : St → Option (St × Int32)} (hM : Mid x b L xs i t s c r σ) (hc : Hx fc (KV x K C s' val σ)) (hr : ∀ σ1, RI σ1 (x + 98) c r → Hx (fr σ1) (RV (x + 98) c r val r' σ1)) (h1 : K + 20 * t' ≤ 2500 + 20 * t) (h2 : C + 5 * t' ≤ 700 + 5 * t) {kk : St → Prop} (hk : ∀ σ4 c', Mid x b L xs (i + 1) t' s' c' r' σ4 → RBd c c' r r' → kk σ4) : exC fc fun σ1 v2 => exB (ckK σ1 17 (x + 98)) fun _ => exC (fr σ1) fun σ4 v5 => if v2 = v5 then kk σ4 else False := by
  obtain ⟨σ1, v, e1, rfl, hK, hO⟩ := hc
  have hM1 := mid_cls hM hO hK h1 h2
  obtain ⟨σ4, v', e2, hE, rfl, c', hR, hB⟩ := hr σ1 hM1.2.1
  refine ⟨σ1, _, e1, (), sm_ckK hM1.2.1.1.1.k, σ4, _, e2, ?_⟩
  dsimp only
  rw [if_pos rfl]
  exact hk σ4 c' (mid_ref hM1 hE hR) hB
/-- a call that may throw: the class' side, with its handlers -/
theorem lw_w {t' K C k : Nat} {val : Int} {exc : Option String} {fc : Option (St × (String ⊕ Int32))} {hd : St → String → Option (St × Int32)} (hM : Mid x b L xs i t s c r σ) (hc : Hx fc (KO x K C s' exc val σ)) (hx : ∀ e, exc = some e → 0 < k ∧ ∀ τ, hd τ e = some (τ, nI k)) (h0 : exc = none → k = 0) (h1 : K + 6 + 20 * t' ≤ 2500 + 20 * t) (h2 : C + 1 + 5 * t' ≤ 700 + 5 * t) {kk : St → Int32 → Prop} (hk : ∀ σ2, Mid x b L xs (i + 1) t' s' c r σ2 → (k = 0 → sJ σ2 (x + 143) 0 = Int32.toInt64 (iz val)) → kk σ2 (nI k)) : exW (Option.bind (ckK σ 16 x) fun _ => cb fc fun σ1 q => match q with
  | .inl E => hd σ1 E
  | .inr v => Option.bind (stJ σ1 (x + 143) 0 (Int32.toInt64 v)) fun σ2 => some (σ2, 0)) kk := by
  obtain ⟨o, ki⟩ := hM.1
  obtain ⟨σ1, q, e1, hP⟩ := hc
  rw [sm_ckK ki.1.2.1.k0, e1]
  cases exc with
  | some e =>
    obtain ⟨rfl, τ, rfl, hK, hO⟩ := hP
    obtain ⟨hp, hhd⟩ := hx e rfl
    have hM1 := mid_th hM hO hK h1 h2
    refine ⟨th τ, nI k, hhd (th τ), fun z hz => hk _ (mid_wz hM1 hz) (fun z => by omega)⟩
  | none =>
    obtain ⟨rfl, hK, hO⟩ := hP
    have hk0 := h0 rfl
    subst hk0
    have hM1 := mid_cls (t' := t') hM hO hK (by omega) (by omega)
    have hs : stJ σ1 (x + 143) 0 (Int32.toInt64 (iz val)) = some (wJ σ1 (x + 143) 0 (Int32.toInt64 (iz val))) := by
      unfold stJ
      rw [if_pos ⟨hM1.2.2.1.2.1, by rw [hM1.2.2.1.2.2]; decide⟩]
      rfl
    refine ⟨wJ σ1 (x + 143) 0 (Int32.toInt64 (iz val)), nI 0, ?_, fun z hz => hk _ (mid_wz (mid_wj hM1) hz) (fun _ => if_pos ⟨rfl, rfl⟩)⟩
    show Option.bind (stJ σ1 (x + 143) 0 (Int32.toInt64 (iz val))) (fun σ2 => some (σ2, 0)) = _
    rw [hs]
    rfl
theorem lg_self (v : Int64) : lg_cmp v v = 0 := by
  unfold lg_cmp
  simp
/-- the reference's side of it -/
theorem lw_r {k : Nat} {val val' : Int} {fr : Option (St × Int32)} (hM : Mid x b L xs i t s c r σ) (hj : k = 0 → sJ σ (x + 143) 0 = Int32.toInt64 (iz val)) (hr : Hx fr (RO (x + 98) c r k val' r' σ)) (hv : k = 0 → val = val') (hk3 : k < 10) {kk : St → Prop} (hk : ∀ σ4 c', Mid x b L xs i t s c' r' σ4 → RBd c c' r r' → kk σ4) : exC fr fun σ6 v7 => exB (ckK σ6 17 (x + 98)) fun _ => exC (fX12_thrown σ6 (x + 98)) fun σ9 v10 => if v10 = nI k then (if nI k = 0 then (exB (ldJ σ9 (x + 143) 0) fun v14 => if (lg_cmp v14 (Int32.toInt64 v7)) = 0 then kk σ9 else False) else kk σ9) else False := by
  obtain ⟨σ6, v7, e1, hE, hF, hv7, c', hR, hB⟩ := hr
  have hM6 := mid_ref hM hE hR
  have ht : fX12_thrown σ6 (x + 98) = some (σ6, nI k) := by
    unfold fX12_thrown
    rw [fi_g hR.1.1 hF]
    rfl
  refine ⟨σ6, v7, e1, (), sm_ckK hR.1.1.k, σ6, nI k, ht, ?_⟩
  dsimp only
  rw [if_pos rfl]
  by_cases c0 : k = 0
  · subst c0
    rw [if_pos (show nI 0 = 0 from rfl)]
    have el : ldJ σ6 (x + 143) 0 = some (sJ σ6 (x + 143) 0) := by
      unfold ldJ
      rw [if_pos ⟨hM6.2.2.1.2.1, by rw [hM6.2.2.1.2.2]; decide⟩]
      rfl
    refine ⟨_, el, ?_⟩
    dsimp only
    rw [hE.1.2.2.2.1, hj rfl, hv7 rfl, hv rfl, lg_self, if_pos rfl]
    exact hk σ6 c' hM6 hB
  · rw [if_neg (show ¬ nI k = 0 from fun z => c0 ((sm_eq (show k < 2147483648 by omega) (show 0 < 2147483648 by omega)).mp z))]
    exact hk σ6 c' hM6 hB
end
