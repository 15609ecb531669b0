/-! ===== calls of the one that was built: takeUnit; an answer that is a copy ===== -/
theorem ki_new {σ : St} {x o b : Nat} {s : Kst} {q : Qv} {β : Type} {K : St → Option (St × β)} {P : St → β → Prop} (h : KI σ x o s) (hq : qok q) (hb : FX σ b q.1 q.2.1 q.2.2) (hk : ∀ σ', KI σ' x o (ansK s q) → cO x 15 5 σ σ' → Hx (K σ') P) : Hx (cb (fX1_init_ (nw 6 0 3 σ) (sz σ) b) fun σ12 _ => Option.bind (pF σ12 15 8 x (sz σ)) fun σ15 => K σ15) P := by
  obtain ⟨hp, hx, _, _, hQ⟩ := id h.1
  have hH := h.2.2.2.2.1
  refine Hx.bd (cf_copy hp hb hq.n4.1 hq.n4.2) (fun σ1 _ g => ?_)
  obtain ⟨hF1, hX1⟩ := g
  have hx1 := hx.kW hF1
  have cb1 := hF1.toB0 hx
  have hQ1 := hQ.st hF1 hx (fun r hr => hr.elim)
  have hH1 := hH.kW hF1 hx cb1 hQ (fun h => h) (fun h => h)
  have kf := KF.made hx hQ hF1 (Nat.le_refl _) hq hX1
  have hI1 : xI [] x σ σ1 := xI.of hF1 hx (fun h => h)
  obtain ⟨p1, p2, p3, p4, p5, p6⟩ := cx_setAnswer hF1.hp hx1 hQ1 hH1 kf
  rw [p1]
  refine hx_bs ?_
  have hF : cW x (s1 x) 15 5 σ _ := (hF1.mo (S' := s1 x) (fun r _ h => h.elim) (Nat.le_refl _) (Nat.le_refl _)).tr0 p2 (fun r _ hr => hr)
  have hI : xAn x σ _ := ⟨fun f => (p3.1 f).trans (hI1.1 f (fun q => by cases q)), fun f hf => (p3.2 f hf).trans (hI1.2 f)⟩
  obtain ⟨hM, hQ', hO⟩ := fr_s1 h hF
  exact hk _ (h.an hM hQ' (fun r hr => Or.inr hr) (fun q => by have : x + 65 = x := q; omega) hI p5) hO
theorem nw_gf {σ : St} {x : Nat} (hp : HP (PX x) σ) (hx : XS σ x) : XS (nw 6 0 3 σ) x := hx.kW (cW.nw (κ := 6) (n := 0) (w := 3) hp (by omega))
theorem unv_un {l : List Nat} : unv (some l) = l.length := rfl
theorem unf_b : ∀ (k x y : Nat) (l : List Nat) (u : Nat), unf k x y = some l → 0 < y → u ∈ l → 0 < u ∧ u < dig30
  | 0, x, y, l, u, h, _, hu => by
    have h : (if x = 0 then some [] else none) = some l := h
    split at h
    · cases h; cases hu
    · cases h
  | k + 1, x, y, l, u, h, hy, hu => by
    unfold unf at h
    split at h
    · cases h; cases hu
    · rename_i hx
      split at h
      · cases h
      · rename_i hc
        split at h
        · cases hu2 : unf k ((x * cdv y x - y) / Nat.gcd (x * cdv y x - y) (y * cdv y x)) ((y * cdv y x) / Nat.gcd (x * cdv y x - y) (y * cdv y x)) with
          | none => rw [hu2] at h; cases h
          | some l' =>
            rw [hu2] at h
            cases h
            have hb := cdv_b (show 0 < x by omega) hy
            rcases List.mem_cons.mp hu with rfl | hu
            · exact ⟨hb.2.1, Classical.not_not.mp hc⟩
            · have hV : 0 < y * cdv y x := Nat.mul_pos hy hb.2.1
              exact unf_b k _ _ l' u hu2 (Nat.div_pos (Nat.gcd_le_right _ hV) (Nat.gcd_pos_of_pos_right _ hV)) hu
        · cases h
theorem unq_b {q : Qv} {l : List Nat} {u : Nat} (h : unq q = some l) (hq : qok q) (hu : u ∈ l) : qok (1, 1, u) := by
  unfold unq at h
  split at h
  · have hb := unf_b 8 _ _ l u h hq.2.2.1 hu
    exact ⟨Or.inr (Or.inl rfl), ⟨fun z => (by have : (1 : Int) = 0 := z; omega), fun z => (by have : (1 : Nat) = 0 := z; omega)⟩, hb.1, Nat.gcd_one_left u, by show 1 < dig30; unfold dig30; omega, hb.2⟩
  · cases h
theorem ki_takeUnit {σ : St} {x o : Nat} {s : Kst} {z : Int} (hz : -2147483648 ≤ z ∧ z < 2147483648) (h : KI σ x o s) : Hx (fX11_takeUnit σ x (iz z)) (fun σ' v => (¬ (0 ≤ z ∧ z < unv (unq s.2.2.2.1)) → KO x 15 5 s (some "java/lang/IndexOutOfBoundsException") 0 σ σ' v) ∧ ∀ (l : List Nat) (u : Nat), unq s.2.2.2.1 = some l → 0 ≤ z → l[z.toNat]? = some u → KO x 15 5 (ansK s (1, 1, u)) none (dgx u).length σ σ' v) := by
  obtain ⟨hp, hx, _, _, hQ⟩ := id h.1
  have hA := h.2.2.1.1
  have hub : -1 ≤ unv (unq s.2.2.2.1) ∧ unv (unq s.2.2.2.1) ≤ 8 := by
    cases hu : unq s.2.2.2.1 with
    | none => exact ⟨by show (-1 : Int) ≤ -1; omega, by show (-1 : Int) ≤ 8; omega⟩
    | some l =>
      have := unq_len hu
      rw [unv_un]
      omega
  rw [n_fX11_takeUnit]
  refine Hx.ce (show (iz z < nI 0) = (z < 0) by rw [show nI 0 = iz 0 from rfl, iz_lt (by omega) (by omega) (by omega) (by omega)]) (fun c => ?_) (fun c => ?_)
  · rw [n_fX11_takeUnit_20]
    exact Hx.ret ⟨fun _ => ⟨rfl, σ, rfl, ⟨o, h⟩, (cO.rf hp).mo (by omega) (by omega)⟩, fun l u _ hz0 => absurd hz0 (by omega)⟩
  · rw [show gF σ 15 16 x = some (x + 18) from hx.gf 15 16 0 18 (by decide) (by decide)]
    refine hx_bs ?_
    rw [sm_gF (show sK σ x = 15 + 1 from hx.k0)]
    refine hx_bs ?_
    rw [hx.ck 18 10 (by decide)]
    refine hx_bs ?_
    refine Hx.bd (cx_unitFractions hz hp hx hA.2.2.2 hA.1 hA.2.2.1) (fun σ1 v g => ?_)
    obtain ⟨hF1, rfl, hX1⟩ := g
    obtain ⟨hK, hO⟩ := h.lowr hF1 (fun r hr => hr)
    have hx1 := hx.kW hF1
    refine Hx.ce (show (iz z < iz (unv (unq s.2.2.2.1))) = (z < unv (unq s.2.2.2.1)) by rw [iz_lt (by omega) (by omega) (by omega) (by omega)]) (fun c2 => ?_) (fun c2 => ?_)
    · cases hu : unq s.2.2.2.1 with
      | none =>
        rw [hu] at c2
        have c2 : z < -1 := c2
        omega
      | some l =>
        rw [hu, unv_un] at c2
        have hlt : z.toNat < l.length := by omega
        have hlu := List.getElem?_eq_getElem hlt
        have hX := hX1 l _ hu (by omega) hlu
        have hqu := unq_b hu hA.2.2.1 (List.mem_of_getElem? hlu)
        have hxn := nw_gf hK.1.1 hx1
        refine hx_nm (hx_nm ?_)
        rw [show gF (nw 6 0 3 σ1) 15 16 x = some (x + 18) from hxn.gf 15 16 0 18 (by decide) (by decide)]
        refine hx_bs ?_
        rw [show gF (nw 6 0 3 σ1) 9 16 (x + 18) = some (x + 60) from hxn.gf 9 16 18 60 (by decide) (by decide)]
        refine hx_bs ?_
        rw [sm_ckK (show sK (nw 6 0 3 σ1) (sz σ1) = 6 from if_pos rfl)]
        refine hx_bs ?_
        refine ki_new hK hqu hX (fun σ2 hK2 hO2 => ?_)
        have hA2 := hK2.2.2.1.1
        obtain ⟨_, _, _, ⟨⟨f1, ⟨f2, f3⟩, _, f4, _⟩, _, _, n2⟩⟩ := hA2
        rw [sm_gF (show sK σ2 x = 15 + 1 from hK2.1.2.1.k0)]
        refine hx_bs ?_
        rw [(sm_gF (ci := 5) f1).trans (congrArg some f3)]
        refine hx_bs ?_
        rw [sm_ckK f4]
        refine hx_bs ?_
        have e30 : dig30 < 10 ^ 36 := by unfold dig30; omega
        have hq5 : l[z.toNat] < dig30 := hqu.2.2.2.2.2
        have n2 : Nt σ2 (sF σ2 (fid 15 8) x + 3) l[z.toNat] := n2
        rw [cn_digitCount n2 (by omega)]
        refine hx_cs (Hx.ret ⟨fun hn => absurd ⟨by omega, by rw [unv_un]; exact c2⟩ hn, fun l' u' hl' _ hlu' => ?_⟩)
        cases hl'
        rw [hlu] at hlu'
        cases hlu'
        exact ⟨by rw [sm_iz], ⟨o, hK2⟩, (hO.tr hO2).mo (by omega) (by omega)⟩
    · rw [n_fX11_takeUnit_20]
      refine Hx.ret ⟨fun _ => ⟨rfl, σ1, rfl, ⟨o, hK⟩, hO.mo (by omega) (by omega)⟩, fun l u hl hz0 hlu => absurd ?_ c2⟩
      rw [hl, unv_un]
      have := (List.getElem?_eq_some_iff.mp hlu).1
      omega
