/-! ===== the class' names worked anew: all ===== -/
theorem sW_x {x : Nat} {σ0 σ : St} {k c : Nat} (hQ : SQ σ0 x) (hx : XS σ0 x) (hF : cM x (sM σ0 x 0) k c σ0 σ) : xI [] x σ0 σ := by
  obtain ⟨k0', c0', hW⟩ := hF.w
  refine xI.of hW hx ?_
  rintro (h | h | ⟨i, g0, g⟩ | ⟨h, _⟩)
  · omega
  · omega
  · have := (hQ.1 76 i (Or.inl rfl) g0).1
    omega
  · exact h rfl
theorem cx_renew_loop {x b na fa : Nat} {fs : List FE} {T : List Th} {σ0 : St} (hx0 : XS σ0 x) (hQ0 : SQ σ0 x) (hb : sz σ0 ≤ na ∧ na ≠ fa) (hbd : ∀ e ∈ fs, ∀ it ∈ e.2.2, OkI fs it) :
    ∀ (m n turn : Nat) (ns : List NE) (u : Int32) (L : List Nat) (res : Nat ⊕ List NE) (k c : Nat) (σ : St), m < n → turn + m ≤ 20 → rnw T fs m ns L = some res → cM x (sW σ0 x 0) k c σ0 σ → SQ σ x → xI [] x σ0 σ → KBk σ x b na fa ns fs → KUs σ x b T → T = Ths ns fs → Bm u (· ∈ L) → (∀ j ∈ L, j < ns.length) → L.Pairwise (· < ·) → (∀ e ∈ ns, (∀ it ∈ e.2.1, OkI fs it) ∧ hts e.2.1 0 = some 1) →
      Hx (fX11_bookWith_68 n σ x b u (nI turn)) (fun σ' v => cM x (sW σ0 x 0) (k + 19 * m) (c + 6 * m) σ0 σ' ∧ SQ σ' x ∧ match res with
        | Sum.inl w => v = 0 ∧ xI rfL x σ0 σ' ∧ KRef σ' x 9 0 w []
        | Sum.inr ns' => v = b ∧ xI [] x σ0 σ' ∧ KBk σ' x b na fa ns' fs ∧ KUs σ' x b T) := by
  intro m
  induction m with
  | zero =>
    intro n turn ns u L res k c σ h1 h2 hr hM hQ hI hB hU hT hu hL hs hok
    obtain ⟨n, rfl⟩ : ∃ n', n = n' + 1 := ⟨n - 1, by omega⟩
    unfold rnw at hr
    by_cases cL : L = []
    · rw [if_pos cL] at hr
      cases hr
      have hfin : cM x (sW σ0 x 0) (k + 19 * 0) (c + 6 * 0) σ0 σ ∧ SQ σ x ∧ b = b ∧ xI [] x σ0 σ ∧ KBk σ x b na fa ns fs ∧ KUs σ x b T := ⟨hM, hQ, rfl, hI, hB, hU⟩
      rw [n_fX11_bookWith_68]
      refine Hx.ce (sm_le (by omega) (by omega)) (fun _ => Hx.ret hfin) (fun _ => ?_)
      refine Hx.ce (bm_z hu) (fun _ => Hx.ret hfin) (fun c2 => absurd (fun j _ hj => by rw [cL] at hj; cases hj) c2)
    · rw [if_neg cL] at hr
      cases hr
  | succ m ih =>
    intro n turn ns u L res k c σ h1 h2 hr hM hQ hI hB hU hT hu hL hs hok
    obtain ⟨n, rfl⟩ : ∃ n', n = n' + 1 := ⟨n - 1, by omega⟩
    have hln := hB.1.2.2
    unfold rnw at hr
    rw [n_fX11_bookWith_68]
    by_cases cL : L = []
    · rw [if_pos cL] at hr
      cases hr
      have hfin : cM x (sW σ0 x 0) (k + 19 * (m + 1)) (c + 6 * (m + 1)) σ0 σ ∧ SQ σ x ∧ b = b ∧ xI [] x σ0 σ ∧ KBk σ x b na fa ns fs ∧ KUs σ x b T := ⟨hM.mo (fun r _ hr => hr) (by omega) (by omega), hQ, rfl, hI, hB, hU⟩
      refine Hx.ce (sm_le (by omega) (by omega)) (fun _ => Hx.ret hfin) (fun _ => ?_)
      refine Hx.ce (bm_z hu) (fun _ => Hx.ret hfin) (fun c2 => absurd (fun j _ hj => by rw [cL] at hj; cases hj) c2)
    · rw [if_neg cL] at hr
      obtain ⟨i, hi, hr⟩ := Option.bind_eq_some_iff.mp hr
      obtain ⟨e, he, hr⟩ := Option.bind_eq_some_iff.mp hr
      obtain ⟨r, hw, hr⟩ := Option.bind_eq_some_iff.mp hr
      have hiL := (rdyF_some hi).1
      have hil := hL i hiL
      have hx := hM.xs hx0
      refine Hx.ce (sm_le (by omega) (by omega)) (fun c1 => by omega) (fun _ => ?_)
      refine Hx.ce (bm_z hu) (fun c2 => absurd hiL (c2 i (by omega))) (fun _ => ?_)
      rw [hT] at hU hi
      rw [sm_ckK hB.1.2.1]
      refine hx_bs ?_
      rw [cb_readyL hB hU hu hL hs hi]
      refine hx_cs ?_
      rw [sm_ckK hB.1.2.1]
      refine hx_bs ?_
      rw [cb_toldAt hB (by omega), if_pos hil]
      refine hx_cs ?_
      have hK := hB.2.2.2.1 i e he
      obtain ⟨w1, w2, w3, w4, w5, w6⟩ := hK.k
      rw [if_neg w6, show gF σ 15 18 x = some (x + 75) from hx.gf 15 18 0 75 (by decide) (by decide)]
      refine hx_bs ?_
      rw [w3]
      refine hx_bs ?_
      rw [show gF σ 15 16 x = some (x + 18) from hx.gf 15 16 0 18 (by decide) (by decide)]
      refine hx_bs ?_
      rw [hx.ck 75 7 (by decide)]
      refine hx_bs ?_
      obtain ⟨hoki, hhts⟩ := hok e (List.mem_of_getElem? he)
      refine Hx.bd (cm_work (o := 0) (Or.inl rfl) hbd hM.hp hx hQ hB hK.2.2.2.1 hoki hhts (Or.inl rfl) (Nat.le_refl 1000000) hw) (fun σ2 v h => ?_)
      obtain ⟨rfl, hM2, hQ2, hP, hR⟩ := h
      have hMM := hM.tr0 hM2 (fun r hr hs => Or.inl (sM.up (Or.inl rfl) hM.2 hr hs))
      have hI2 := hI.tr (L := []) (sW_x hQ hx hM2) (fun f h => h) (fun f h => h)
      have hx2 := hMM.xs hx0
      have cb2 := hM2.toB (fun r _ hr => sM.mu (Or.inl rfl) hr)
      have hB2 := hB.kB cb2 hQ
      have hU2 := hU.kB ⟨hB.1.1, hB.1.2.1⟩ cb2 hQ
      have hK2 := hK.kB cb2 hQ
      have hrc := wrk_c hw
      obtain ⟨_, en2⟩ := hB.2.2.1.1.kB (by omega) cb2 hQ
      refine Hx.ce (sm_eq (by omega) (by omega)) (fun c3 => ?_) (fun c3 => ?_)
      · rw [if_pos c3] at hr
        obtain ⟨r1, r2, _⟩ := hR c3
        rw [(ob_f hB2).1]
        refine hx_bs ?_
        refine cx_renew_put hMM.hp hx2 hQ2 hB2 hb.2 he r1 r2 (en2 i) (fun σ3 h => ?_)
        obtain ⟨σm, hFm, ⟨t', rfl⟩, hB3⟩ := h
        have hkm := hFm.toM hx2 (fun T hT h => h)
        have hMm := hMM.tr hkm (fun r _ hr => hr.elim)
        have kna : sK σm na = 108 := hFm.k hB2.2.2.1.1.2.1 (by omega)
        have hFq := cWq (a := na) (j := i) (v := t') hFm.hp (by omega) (by omega)
        have hxm := hx2.kW hFm
        have hMq := hFq.toM hxm (fun T hT h => (hxm.ne8 kna hT) h)
        have hM3 := hMm.tr0 hMq (fun r hr hs => by have : r = na := hs; omega)
        have hQm := hQ2.st hFm hx2 (fun r hr => hr.elim)
        have hQ3 : SQ (wQ σm na i t') x := by
          refine hQm.gen hFq (fun T hT => hFq.row hxm hT (fun h => (hxm.ne8 kna hT) h)) (fun T j hT h0 => ?_)
          obtain ⟨_, _, s', n', d', q3⟩ := hQm.1 T j hT h0
          exact ⟨s', n', d', q3⟩
        have hI3 : xI [] x σ0 (wQ σm na i t') := by
          have g1 : xI [] x σ2 σm := xI.of hFm hx2 (fun h => h)
          have g2 : xI [] x σm (wQ σm na i t') := ⟨fun f _ => rfl, fun f => rfl⟩
          exact (hI2.tr (L := []) g1 (fun f h => h) (fun f h => h)).tr g2 (fun f h => h) (fun f h => h)
        have hUm := hU2.kB ⟨hB2.1.1, hB2.1.2.1⟩ (hFm.toB0 hx2) hQ2
        have hU3 : KUs (wQ σm na i t') x b (Ths ns fs) := hUm
        refine hx_nm (hx_nm ?_)
        rw [sm_add]
        have hTs : Ths (ns.set i (e.1, e.2.1, r.2.2.1)) fs = Ths ns fs := Ths_set he rfl rfl
        rw [hT] at hr
        refine Hx.mo (ih n (turn + 1) _ _ (L.erase i) res (k + 19) (c + 6) _ (by omega) (by omega) (by rw [hT]; exact hr) hM3 hQ3 hI3 hB3 (by rw [hT]; exact hU3) (by rw [hT, hTs]) ((bm_and hu (bm_not (bm_shl (show i < 32 by omega)))).cg fun j _ => ?_) (fun j hj => ?_) (hs.sublist (List.erase_sublist)) (fun e' he' => ?_)) (fun σ' v h => ?_)
        · have hnd : L.Nodup := hs.imp (fun h => by omega)
          rw [List.Nodup.mem_erase_iff hnd]
          exact ⟨fun h => ⟨h.2, h.1⟩, fun h => ⟨h.2, h.1⟩⟩
        · rw [List.length_set]
          exact hL j (List.mem_of_mem_erase hj)
        · rcases List.mem_or_eq_of_mem_set he' with h | h
          · exact hok e' h
          · rw [h]
            exact ⟨hoki, hhts⟩
        · refine ⟨h.1.mo (fun r _ hr => hr) (by omega) (by omega), h.2⟩
      · rw [if_neg c3] at hr
        cases hr
        have k02 : sK σ2 x = 16 := hx2.kd 0 16 (by decide)
        rw [sm_ckK k02]
        refine hx_bs ?_
        refine Hx.bd (cx_refuse hMM.hp hx2) (fun σ3 _ h => ?_)
        obtain ⟨g1, g2, g3, g4, g5, g6⟩ := h
        have g1M := g1.toM hx2 (fun T hT hs => by have : x + T = x := hs; rcases hT with g | g | g <;> omega)
        have hM3 := hMM.tr0 g1M (fun r _ hr => Or.inr hr)
        have hx3 := hx2.kW g1
        have hQ3 := hQ2.st g1 hx2 (fun r hr => by have : r = x := hr; omega)
        have hK3 := hK2.kB (g1M.toB (fun r _ hr => Or.inl (by have : r = x := hr; omega))) hQ2
        have k03 : sK σ3 x = 15 + 1 := hx3.kd 0 16 (by decide)
        rw [hK3.k.1]
        refine hx_bs ?_
        rw [sm_pI k03]
        refine hx_bs ?_
        have g7 := cWi (a := x) (f := fid 15 5) (v := nI e.1) g1.hp (by omega) (by omega)
        have g7M := g7.toM hx3 (fun T hT hs => by have : x + T = x := hs; rcases hT with g | g | g <;> omega)
        refine Hx.ret ⟨(hM3.tr0 g7M (fun r _ hr => Or.inr hr)).mo (fun r _ hr => hr) (by omega) (by omega), hQ3.st g7 hx3 (fun r hr => by have : r = x := hr; omega), rfl, ⟨fun f hf => ?_, fun f => (g2.2 f).trans (hI2.2 f)⟩, ?_, ?_, ?_, ?_, by show 0 ≤ 30; omega, fun i z hz => by cases hz⟩
        · have hf9 := hf
          simp only [List.mem_cons, List.not_mem_nil, or_false, not_or] at hf9
          exact (sI_wI_f hf9.2.2.1).trans ((g2.1 f hf).trans (hI2.1 f (fun q => by cases q)))
        · rw [sI_wI_f (by decide), g3]; exact sm_iz 9
        · rw [sI_wI_f (by decide), g4]; exact sm_iz 0
        · rw [sI_wI_eq]; exact sm_iz _
        · rw [sI_wI_f (by decide), g6]; rfl
