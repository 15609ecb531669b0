theorem AF.wi2 {x b na fa k : Nat} {ns : List NE} {fs : List FE} {fr : Frs} {cur : List It} {v : Int32} {σ : St} (h : AF σ x b na fa ns fs fr cur) : cM x (s1 (x + 75)) 0 0 σ (wI σ (fid 6 k) (x + 75) v) := (cWm h.1.1 h.1.2.1).toM h.1.2.1 s75M
/-- the machine's own cells -/
theorem s1M {x o r a : Nat} {σ : St} (ha : x + 75 ≤ a ∧ a ≤ x + 83) (h : s1 a r) : sM σ x o r := Or.inr (Or.inl (by simp only [s1] at h; omega))
theorem cm_loop {x b na fa o : Nat} {ns : List NE} {fs : List FE} (ho : oO o) (hbd : ∀ e ∈ fs, ∀ it ∈ e.2.2, OkI fs it) : ∀ (n N t : Nat) (σ : St) (stk : List Qv) (cur : List It) (fr : Frs) (pl : Nat) (sts : Sts) (r : Rs), n < N → t + n ≤ 1000000 → wrk (nvl ns) (fbd fs) n stk cur fr pl sts = some r → WI σ x b na fa o ns fs stk cur fr pl sts →
    (∀ it ∈ cur, OkI fs it) → (∀ p ∈ fr, ∀ it ∈ p.1, OkI fs it) → stk.length ≤ 1000 → Hx (fX2_work_24 N σ (x + 75) b (ntd x o) (x + 18) (nI t)) (WPo σ x o r) := by
  intro n
  induction n with
  | zero => intro N t σ stk cur fr pl sts r _ _ h; cases h
  | succ n ih =>
    intro N t σ stk cur fr pl sts r hN ht hw hWI hok1 hok2 hstk
    obtain ⟨N, rfl⟩ : ∃ N', N = N' + 1 := ⟨N - 1, by omega⟩
    obtain ⟨⟨hp, hx, hQ⟩, hB, hI, hM, hgv, ⟨hLv, hFr⟩, hpl, hS, hFin, hsl⟩ := hWI
    have hfl := hFr.len
    have hA : AF σ x b na fa ns fs fr cur := ⟨⟨hp, hx, hQ⟩, hB, hLv, hFr⟩
    obtain ⟨k, l, hs, hk, hkl, hdr⟩ := id hLv
    obtain ⟨ka, oa, pa, ca', na', nn, ⟨f1, f2, f3, f4, f5⟩, al1, al2, hnn, hit⟩ := hs.ac
    have k77 := hx.kd 77 107 (by decide)
    have l77 := hx.nn 77 11 (by decide)
    have k78 := hx.kd 78 100 (by decide)
    have l78 := hx.nn 78 11 (by decide)
    have hl200 := hs.1.2.2
    rw [n_fX2_work_24]
    refine Hx.ce (sm_le (by omega) (by omega)) (fun c => by omega) (fun _ => ?_)
    rw [xf_6_2 hx]
    refine hx_bs ?_
    rw [mI hx 5, hI.2.1]
    refine hx_bs ?_
    rw [ldQ_ok (ti := 7) k77 (by rw [l77]; omega) (by omega)]
    refine hx_bs ?_
    rw [xf_6_3 hx]
    refine hx_bs (hx_bs ?_)
    rw [sm_ld k78 (by rw [l78]; omega) (by omega), hk]
    refine hx_bs ?_
    generalize hsd : sQ σ (x + 77) fr.length = s at *
    rw [f1]
    refine hx_bs ?_
    rw [al1]
    refine hx_bs ?_
    refine Hx.ce (sm_lt (by omega) (by omega)) (fun ck => ?_) (fun ck => ?_)
    · -- an item
      cases cur with
      | nil =>
        have := congrArg List.length hdr
        rw [List.length_drop, List.length_nil] at this
        omega
      | cons it rest =>
        have hd2 := List.drop_eq_getElem_cons ck
        rw [hdr] at hd2
        injection hd2 with e1 e2
        have hj : l[k]? = some it := by rw [List.getElem?_eq_getElem ck, e1]
        have hoki := hok1 it (by simp)
        have hokr : ∀ it' ∈ rest, OkI fs it' := fun it' h => hok1 it' (by simp [h])
        obtain ⟨⟨ib1, ib2, ib3, ib4⟩, _⟩ := hit k it hj
        refine hx_bs (hx_bs ?_)
        rw [sm_add, sm_st k78 (by rw [l78]; omega) (by omega)]
        refine hx_bs ?_
        have hF1 := cWa (j := fr.length) (v := nI (k + 1)) hp k78 (hx.2.2.2.2 78 (by decide))
        have hT78 : ∀ T, tMu T → ¬ s1 (x + 78) (x + T) := fun T hT => by
          simp only [s1]
          rcases hT with rfl | rfl | rfl <;> omega
        have hM1 := hF1.toM hx hT78
        have hx1 := hx.kW hF1
        have hQ1 := hQ.st hF1 hx (fun r hr => by simp only [s1] at hr; omega)
        have hB1 := hM1.toB (fun r _ hr => Or.inl (by simp only [s1] at hr; omega))
        have hm1 := hF1.mis hx (by simp only [s1]; omega)
        have a78 : sA (wA σ (x + 78) fr.length (nI (k + 1))) (x + 78) fr.length = nI (k + 1) := sA_wA_eq
        have a78' : ∀ lv, lv ≠ fr.length → sA (wA σ (x + 78) fr.length (nI (k + 1))) (x + 78) lv = sA σ (x + 78) lv := fun lv h => sA_wA_j h
        have a79 : ∀ lv, sA (wA σ (x + 78) fr.length (nI (k + 1))) (x + 79) lv = sA σ (x + 79) lv := fun lv => congrFun (sA_wA_b (by omega)) lv
        have q77 : ∀ lv, sQ (wA σ (x + 78) fr.length (nI (k + 1))) (x + 77) lv = sQ σ (x + 77) lv := fun _ => rfl
        generalize wA σ (x + 78) fr.length (nI (k + 1)) = σ1 at *
        have hs1 : KSum σ1 x s l := hs.kB hB1 hQ
        have hA1 : AF σ1 x b na fa ns fs fr rest := ⟨⟨hF1.hp, hx1, hQ1⟩, hB.kB hB1 hQ, ⟨k + 1, l, by rw [q77, hsd]; exact hs1, a78, by omega, e2.symm⟩, FrC.kp hB1 hQ hFr (fun lv h => ⟨q77 lv, a78' lv (by omega)⟩) (fun lv _ => a79 lv)⟩
        have hI1 : MIs σ1 x stk.length fr.length sts.length := ⟨by rw [hm1]; exact hI.1, by rw [hm1]; exact hI.2.1, by rw [hm1]; exact hI.2.2⟩
        have hMs1 := hM.kp hQ hM1 (Or.inl rfl : tMu 76) (h := stk.length) (fun r hr => Or.inl (by simp only [s1] at hr; omega)) (fun _ => Nat.le_refl _)
        have hS1 := hS.kp hx hQ hM1 (Or.inl rfl : tMu 76) (h := 1000) (fun r hr => Or.inl (by simp only [s1] at hr; omega)) (fun e => by rcases ho with rfl | ho; (omega); (unfold oS at ho; omega)) (fun hoS => by unfold oS at hoS; simp only [s1]; omega)
        have hgv1 : ∀ q, stk.getLast? = some q → FX σ1 (x + 80) q.1 q.2.1 q.2.2 := fun q h => (hgv q h).kW hF1 ⟨by simp only [s1]; omega, by simp only [s1]; omega, by simp only [s1]; omega⟩
        have hM1' := hM1.mo (S' := sM σ x o) (fun r _ hr => s1M (by omega) hr) (Nat.le_refl _) (Nat.le_refl _)
        -- the rest, behind the place
        have hstep : ∀ σ2 : St, cM x (sM σ x o) 0 0 σ σ2 → AF σ2 x b na fa ns fs fr rest → KSum σ2 x s l → MIs σ2 x stk.length fr.length sts.length → Mst σ2 x stk → (∀ q, stk.getLast? = some q → FX σ2 (x + 80) q.1 q.2.1 q.2.2) → StS σ2 x o sts → sI σ2 (fid 6 7) (x + 75) = nI (plc fr it pl) → Hx (fX2_work_115 (fX2_work_24 N) σ2 (x + 75) b (ntd x o) (x + 18) (nI t) s (nI k)) (WPo σ x o r) := by
          clear hM1' hgv1 hS1 hMs1 hI1 hA1 hs1 q77 a79 a78' a78 hm1 hB1 hQ1 hx1 hM1 hF1
          intro σ2 hF2 hA2 hs2 hI2 hM2 hgv2 hS2 hpl2
          obtain ⟨⟨hp2, hx2, hQ2⟩, hB2, hLv2, hFr2⟩ := id hA2
          obtain ⟨ka, oa, pa, ca', na', nn, ⟨f1, f2, f3, f4, f5⟩, al1, al2, hnn, hit⟩ := hs2.ac
          obtain ⟨_, i2, i3, i4, i5, i6⟩ := hit k it hj
          have hfin : ∀ (c : Nat) (P : St → Int32 → Prop), True := fun _ _ => trivial
          have h259 : ∀ (τ : St) (c : Nat), c ≠ 0 → c < 100 → cM x (sM σ x o) 0 0 σ τ → SQ τ x → sI τ (fid 6 7) (x + 75) = nI (plc fr it pl) → ∀ (q : Qv) (ss : Sts), r = (c, plc fr it pl, q, ss) → Hx (fX2_work_259 (fX2_work_24 N) τ (x + 75) b (ntd x o) (x + 18) (nI t) (nI c)) (WPo σ x o r) := by
            intro τ c hc hc9 hFτ hQτ hplτ q ss hr
            rw [n_fX2_work_259]
            refine Hx.ce (sm_eq (by omega) (by omega)) (fun h => absurd h hc) (fun _ => Hx.ret ⟨?_, hFτ, hQτ, fun _ => ?_, fun h => ?_⟩)
            · rw [hr]
            · rw [hr]; exact hplτ
            · rw [hr] at h; exact absurd h hc
          have hgo : ∀ (τ : St) (stk' : List Qv) (cur' : List It) (fr' : Frs) (sts' : Sts), wrk (nvl ns) (fbd fs) n stk' cur' fr' (plc fr it pl) sts' = some r → cM x (sM σ x o) 0 0 σ τ → WI τ x b na fa o ns fs stk' cur' fr' (plc fr it pl) sts' → (∀ it ∈ cur', OkI fs it) → (∀ p ∈ fr', ∀ it ∈ p.1, OkI fs it) → stk'.length ≤ 1000 → Hx (fX2_work_259 (fX2_work_24 N) τ (x + 75) b (ntd x o) (x + 18) (nI t) (nI 0)) (WPo σ x o r) := by
            intro τ stk' cur' fr' sts' hw' hFτ hWI' ok1 ok2 ok3
            rw [n_fX2_work_259]
            refine Hx.cs (fun _ => ?_) (fun c => absurd rfl c)
            refine hx_nm ?_
            rw [sm_add]
            exact Hx.mo (ih N (t + 1) τ stk' cur' fr' (plc fr it pl) sts' r (by omega) (by omega) hw' hWI' ok1 ok2 ok3) (fun σ' v h => h.pre ho hFτ (fun _ _ h => h))
          rw [n_fX2_work_115, f1]
          refine hx_bs ?_
          rw [i2]
          refine hx_bs ?_
          unfold wrk at hw
          split at hw
          · cases hw
          rename_i h990
          split at hw
          · -- a call
            rename_i hcl
            obtain ⟨hc1, hc2⟩ := hcl
            split at hw
            · cases hw
            rename_i hc3
            obtain ⟨l', hl', hw⟩ := ob hw
            obtain ⟨k', e, q1, q2, q3, q4⟩ := fbd_some hl'
            have hk' := (List.getElem?_eq_some_iff.mp q2).1
            have ek : ckd it = 9 := by unfold ckd; rw [if_neg (by omega), if_neg (by omega), if_neg (by omega), if_pos hc1, if_pos hc2]
            have hln := hB2.1.2.2
            rw [ek]
            refine Hx.cs (fun _ => ?_) (fun c => absurd rfl c)
            rw [f2]
            refine hx_bs ?_
            rw [i5 (by omega)]
            refine hx_bs ?_
            rw [(ob_f hB2).2.2.2.2]
            refine hx_bs ?_
            rw [cb_findF hB2 ib2, q1]
            refine hx_cs ?_
            rw [(ob_f hB2).2.2.2.2]
            refine hx_bs ?_
            have e9 : iz (thn (some k') ns.length) = nI (ns.length + k') := by
              rw [sm_iz]
              rfl
            rw [e9, cb_toldAt hB2 (show ns.length + k' < ns.length + fs.length by omega), if_neg (by omega), show ns.length + k' - ns.length = k' by omega]
            refine hx_cs ?_
            rw [xk_75 hx2]
            refine hx_bs ?_
            obtain ⟨hT, hnp⟩ := hB2.2.2.2.2 k' e q2
            obtain ⟨t1, t2, t3, t4, t5, t6⟩ := hT.k
            have hnp2 : e.2.1 = it.2.2.1 := by
              have := hoki hc1 hc2
              unfold fnp at this
              rw [q1, Option.bind_some, q2] at this
              simpa using this
            have hcs : it.2.2.1 ≤ stk.length := by omega
            generalize sQ σ2 fa k' = tt at *
            rw [n_fX2_enter]
            refine Hx.bd (Q := fun σ' v => v = nI 0 ∧ cM x (sM σ2 x o) 0 0 σ2 σ' ∧ WI σ' x b na fa o ns fs stk l' ((rest, stk.length - it.2.2.1) :: fr) (plc fr it pl) sts) ?_ (fun σ3 v3 h3 => ?_)
            · refine Hx.cs (fun c => absurd c t6) (fun _ => ?_)
              have h5 := hI2.2.1
              simp only [mI hx2 5, h5, xf_6_2 hx2, sm_bind, sm_aln (hx2.kd 77 107 (by decide)) ⟨by omega, by omega⟩, hx2.nn 77 11 (by decide), sm_add]
              refine Hx.ce (sm_le (by omega) (by omega)) (fun c => by omega) (fun _ => ?_)
              simp only [t2, mI hx2 1, hI2.1, sm_bind, hnp2]
              refine Hx.ce (sm_le (by omega) (by omega)) (fun _ => ?_) (fun c => absurd hcs c)
              simp only [mI hx2 5, h5, sm_bind, sm_add, mP hx2]
              have hF3 := cWm (k := 5) (v := nI (fr.length + 1)) hp2 hx2
              have hFM3 := hF3.toM hx2 s75M
              have hA3 := hA2.wi (k := 5) (v := nI (fr.length + 1))
              have hM3 := hM2.wi (k := 5) (v := nI (fr.length + 1)) hp2 hx2 hQ2
              have hS3 := hS2.wi (k := 5) (v := nI (fr.length + 1)) hp2 hx2 hQ2
              have hB3c := hFM3.toB (fun r _ hr => Or.inl (by simp only [s1] at hr; omega))
              have hT3 := hT.kB hB3c hQ2
              have hgv3 : ∀ q, stk.getLast? = some q → FX (wI σ2 (fid 6 5) (x + 75) (nI (fr.length + 1))) (x + 80) q.1 q.2.1 q.2.2 := fun q h => (hgv2 q h).kW hF3 ⟨by simp only [s1]; omega, by simp only [s1]; omega, by simp only [s1]; omega⟩
              have e5 : sI (wI σ2 (fid 6 5) (x + 75) (nI (fr.length + 1))) (fid 6 5) (x + 75) = nI (fr.length + 1) := sI_wI_eq
              have e1' : sI (wI σ2 (fid 6 5) (x + 75) (nI (fr.length + 1))) (fid 6 1) (x + 75) = nI stk.length := (sI_wI_f (by decide)).trans hI2.1
              have e6' : sI (wI σ2 (fid 6 5) (x + 75) (nI (fr.length + 1))) (fid 6 6) (x + 75) = nI sts.length := (sI_wI_f (by decide)).trans hI2.2.2
              have e7' : sI (wI σ2 (fid 6 5) (x + 75) (nI (fr.length + 1))) (fid 6 7) (x + 75) = nI (plc fr it pl) := (sI_wI_f (by decide)).trans hpl2
              generalize wI σ2 (fid 6 5) (x + 75) (nI (fr.length + 1)) = σ3 at *
              obtain ⟨⟨hp3, hx3, hQ3⟩, hB3, hLv3, hFr3⟩ := id hA3
              obtain ⟨u1, u2, u3, u4, u5, u6⟩ := hT3.k
              have hsum := hT3.2.2.2.1
              rw [u3]
              refine hx_bs ?_
              rw [u2, hnp2]
              refine hx_bs ?_
              rw [xk_75 hx3]
              refine hx_bs ?_
              refine Hx.bd (cm_begin hp3 hx3 hsum (show fr.length + 1 < 11 by omega) e5 e1' hcs) (fun σ4 _ h4 => ?_)
              obtain ⟨w1, w2, w3, w4, w5⟩ := h4
              have hS9 : ∀ T, tMu T → ¬ (x + 77 ≤ x + T ∧ x + T ≤ x + 79) := fun T hT => by
                rcases hT with rfl | rfl | rfl <;> omega
              have hFM4 := w1.toM hx3 hS9
              have hQ4 := hQ3.st w1 hx3 (fun r hr => by omega)
              have hB4 := hFM4.toB (fun r _ hr => Or.inl (by omega))
              have hm4 := w1.mis hx3 (by omega)
              refine Hx.ret ⟨rfl, (hFM3.mo (S' := sM σ2 x o) (fun r _ hr => s1M (by omega) hr) (Nat.le_refl _) (Nat.le_refl _)).tr0 hFM4 (fun r _ hr => Or.inr (Or.inl (by omega))), ⟨hFM4.hp, hFM4.xs hx3, hQ4⟩, hB3.kB hB4 hQ3, ⟨by rw [hm4]; exact e1', by rw [hm4]; exact e5, by rw [hm4]; exact e6'⟩, hM3.kp hQ3 hFM4 (Or.inl rfl : tMu 76) (h := stk.length) (fun r hr => Or.inl (by omega)) (fun _ => Nat.le_refl _), fun q h => (hgv3 q h).kW w1 ⟨by omega, by omega, by omega⟩, ⟨⟨0, e.2.2, ?_, w3, Nat.zero_le _, by rw [List.drop_zero]; exact q4⟩, ?_⟩, fun _ => by rw [hm4]; exact e7', hS3.kp hx3 hQ3 hFM4 (Or.inl rfl : tMu 76) (h := 1000) (fun r hr => Or.inl (by omega)) (fun e => by rcases ho with rfl | ho; (omega); (unfold oS at ho; omega)) (fun hoS => by unfold oS at hoS; omega), ?_, hsl⟩
              · rw [show ((rest, stk.length - it.2.2.1) :: fr).length = fr.length + 1 from rfl, w2]
                exact hsum.kB hB4 hQ3
              · have e0 := w5 fr.length (by omega)
                refine ⟨hLv3.kp hB4 hQ3 e0.1 e0.2.1, ⟨w4, by omega, by omega⟩, FrC.kp hB4 hQ3 hFr3 (fun lv h => ⟨(w5 lv (by omega)).1, (w5 lv (by omega)).2.1⟩) (fun lv h => (w5 lv (by omega)).2.2)⟩
              · exact fin_call hFin (by unfold ari; rw [if_neg (by omega), if_pos ⟨hc1, hc2⟩])
            · obtain ⟨rfl, h4, h5⟩ := h3
              refine hgo σ3 stk l' _ sts hw (hF2.tr0 h4 (fun r hr hs => sM.up ho hF2.aE hr hs)) h5 (fun it' h => ?_) (fun p hp' it' h => ?_) hstk
              · rw [← q4] at h
                exact hbd e (List.mem_of_getElem? q2) it' h
              · rcases List.mem_cons.mp hp' with rfl | hp'
                · exact hokr it' h
                · exact hok2 p hp' it' h
          · rename_i hncl
            by_cases hval : it.1 = 30 ∨ it.1 = 31 ∨ it.1 = 32
            · -- a value
              have hv : ∃ q, vlO ns stk fr it = some q ∧ wrk (nvl ns) (fbd fs) n (stk ++ [q]) rest fr (plc fr it pl) sts = some r := by
                unfold vlO
                split at hw
                · rename_i h30
                  exact ⟨_, by rw [if_pos h30], hw⟩
                · rename_i h30
                  split at hw
                  · rename_i h31
                    obtain ⟨q, hq, hw⟩ := ob hw
                    exact ⟨q, by rw [if_neg h30, if_pos h31]; exact hq, hw⟩
                  · rename_i h31
                    rw [if_pos (by omega)] at hw
                    cases fr with
                    | nil => cases hw
                    | cons p fr' =>
                      obtain ⟨r0, bt⟩ := p
                      obtain ⟨q, hq, hw⟩ := ob hw
                      exact ⟨q, by rw [if_neg h30, if_neg h31]; exact hq, hw⟩
              obtain ⟨q, hv, hw⟩ := hv
              obtain ⟨v, v1, v2, v3, v4, v5⟩ := cm_valueAt hx2 hQ2 hB2 hM2 hFr2 hs2 hj hval hI2.1 hI2.2.1 (by omega) hv hfl
              have ek : ckd it = 21 ∨ ckd it = 22 ∨ ckd it = 23 := by
                unfold ckd
                rcases hval with h | h | h
                · rw [if_pos h]; omega
                · rw [if_neg (by omega), if_pos h]; omega
                · rw [if_neg (by omega), if_neg (by omega), if_pos h]; omega
              refine Hx.ce (sm_eq (by omega) (by omega)) (fun c => by omega) (fun _ => ?_)
              refine Hx.ce (sm_lt (by omega) (by omega)) (fun c => by omega) (fun _ => ?_)
              rw [xk_75 hx2]
              refine hx_bs ?_
              rw [v1]
              refine hx_cs ?_
              rw [xk_75 hx2]
              refine hx_bs ?_
              have hne : sQ σ2 (x + 76) stk.length ≠ v := by
                intro e
                rcases v5 with v5 | ⟨i, v5, v6, v7⟩
                · exact v5 76 _ (Or.inl rfl) e
                · have := (hQ2.2 76 stk.length 76 i (Or.inl rfl) (Or.inl rfl) (by rw [e]; exact v7) (by rw [e]; exact v6)).2
                  omega
              refine Hx.bd (cm_pushB ho hA2 hI2 hM2 rfl (by omega) v2 v3 v4 hne hS2 hpl2) (fun σ3 v3' h3 => ?_)
              obtain ⟨rfl, w1, w2, w3, w4, w5, w6, w7⟩ := h3
              refine hgo σ3 (stk ++ [q]) rest fr sts hw (hF2.tr0 w1 (fun r hr hs => sM.up ho hF2.aE hr hs)) ⟨w2.1, w2.2.1, ?_, w4, fun q' h => ?_, w2.2.2, fun _ => w7, w6, ?_, hsl⟩ hokr hok2 (by rw [List.length_append, List.length_singleton]; omega)
              · rw [List.length_append, List.length_singleton]; exact w3
              · rw [List.getLast?_append] at h
                simp at h
                rw [← h]; exact w5
              · rw [List.length_append, List.length_singleton]
                have := fin_step hFin (c := 0) (by unfold ari; rw [if_pos hval])
                rw [Nat.sub_zero] at this
                exact this
            · -- a step
              rw [if_neg (by omega), if_neg (by omega), if_neg (by omega)] at hw
              split at hw
              · cases hw
              rename_i hst9
              obtain ⟨a, ha, hw⟩ := ob hw
              obtain ⟨b', hb, hw⟩ := ob hw
              have hst : 1 ≤ stp it ∧ stp it ≤ 20 ∧ stp it ≠ 9 := by omega
              have har : arity (stp it) ≤ stk.length := by omega
              have ek : ckd it = stp it := by
                unfold ckd stp
                rw [if_neg (by omega), if_neg (by omega), if_neg (by omega)]
                by_cases h33 : it.1 = 33
                · rw [if_pos h33, if_pos h33, if_neg (fun q => hncl ⟨h33, q⟩)]
                · rw [if_neg h33, if_neg h33]
              rw [ek]
              generalize hstp : stp it = st at *
              refine Hx.ce (sm_eq (by omega) (by omega)) (fun c => by omega) (fun _ => ?_)
              refine Hx.ce (sm_lt (by omega) (by omega)) (fun _ => ?_) (fun c => by omega)
              rw [xk_75 hx2]
              refine hx_bs ?_
              have hab := arity_b st
              by_cases h200 : sts.length = 200
              · rw [if_pos h200] at hw
                cases hw
                rw [cm_objL hx2 hI2.2.2 (by omega) (by omega)]
                refine hx_cs (Hx.ce (sm_eq (by omega) (by omega)) (fun c => by omega) (fun _ => ?_))
                exact h259 σ2 8 (by omega) (by omega) hF2 hQ2 hpl2 _ _ rfl
              rw [if_neg h200] at hw
              rw [cm_objection hx2 hM2 hI2.1 hI2.2.2 (by omega) hst (by omega) har ha hb]
              refine hx_cs ?_
              have hca9 : ca st a b' < 100 := by
                unfold ca
                split
                · omega
                · split
                  · omega
                  · split
                    · omega
                    · split
                      · omega
                      · split
                        · omega
                        · split <;> omega
              by_cases hc7 : ca st a b' = 0 ∨ ca st a b' = 7
              · have e0 : (if ca st a b' = 7 then 0 else ca st a b') = 0 := by split <;> omega
                rw [e0]
                refine Hx.cs (fun _ => ?_) (fun c => absurd rfl c)
                obtain ⟨ma1, ma2, ma3⟩ := hM2 _ _ ha
                obtain ⟨mb1, mb2, mb3⟩ := hM2 _ _ hb
                have la := (hQ2.1 76 _ (Or.inl rfl) ma1).1
                have lb' := (hQ2.1 76 _ (Or.inl rfl) mb1).1
                simp only [xf_6_0 hx2, mI hx2 1, hI2.1, sm_bind, sm_cb, cx_valuesOf (σ := σ2) ⟨hst.2.1, hst.2.2⟩, sm_sub har, sm_sub (show 1 ≤ stk.length by omega), hM2.ld hx2 ha (by omega), hM2.ld hx2 hb (by omega), xk_75 hx2]
                refine Hx.bd (cr_calculate hp2 hx2 ma2 mb2 ma3 mb3 la lb' hst hc7) (fun σ3 _ h3 => ?_)
                obtain ⟨hF3, hG3⟩ := h3
                have hFM3 := hF3.toM hx2 sCM
                have hQ3 := hQ2.st hF3 hx2 (fun r hr => by simp only [sC] at hr; omega)
                have hA3 := hA2.kp hFM3 hQ3 (fun r _ hr => Or.inl (by simp only [sC] at hr; omega)) ⟨by simp only [sC]; omega, by simp only [sC]; omega, by simp only [sC]; omega⟩
                have hx3 := hx2.kW hF3
                have hm3 := hF3.mis hx2 (by simp only [sC]; omega)
                have hM3 := hM2.kp hQ2 hFM3 (Or.inl rfl : tMu 76) (h := stk.length) (fun r hr => Or.inl (by simp only [sC] at hr; omega)) (fun _ => Nat.le_refl _)
                have hS3 := hS2.kp hx2 hQ2 hFM3 (Or.inl rfl : tMu 76) (h := 1000) (fun r hr => Or.inl (by simp only [sC] at hr; omega)) (fun e => by rcases ho with rfl | ho; (omega); (unfold oS at ho; omega)) (fun hoS => by unfold oS at hoS; simp only [sC]; omega)
                have hFF : cM x (sM σ x o) 0 0 σ σ3 := hF2.tr0 hFM3 (fun r hr hs => by simp only [sC] at hs; unfold sM; omega)
                have hpl3 : sI σ3 (fid 6 7) (x + 75) = nI (plc fr it pl) := by rw [hm3]; exact hpl2
                rw [xf_6_8 hx3]
                refine hx_bs ?_
                rw [fx_k (hx3.fs 80 (by omega))]
                refine hx_bs ?_
                by_cases hc0 : ca st a b' = 0
                · obtain ⟨s9, n9, d9, hX, hiff, heq, hn9, hd9⟩ := hG3.z hc0
                  rw [if_neg (by omega)] at hw
                  rw [cf_fits hX]
                  refine hx_cs (Hx.ce nb0 (fun c => ?_) (fun c => ?_))
                  · rw [lit30] at c
                    have hnq : ¬ qsm (wkq st a b') := fun q => c (hiff.mpr q)
                    rw [if_pos hnq] at hw
                    cases hw
                    rw [n_fX2_work_257]
                    exact h259 σ3 7 (by omega) (by omega) hFF hQ3 hpl3 _ _ rfl
                  · rw [lit30] at c
                    have c := Classical.not_not.mp c
                    have hqs := hiff.mp c
                    rw [if_neg (fun q => q hqs)] at hw
                    have hQe := heq c
                    have hokq := wkq_ok ma3 mb3 hc0 hst hqs
                    rw [cx_valuesOf (σ := σ3) ⟨hst.2.1, hst.2.2⟩]
                    refine hx_cs ?_
                    rw [xk_75 hx3]
                    refine hx_bs ?_
                    have hX' : FX σ3 (x + 80) (wkq st a b').1 (wkq st a b').2.1 (wkq st a b').2.2 := by rw [← hQe]; exact hX
                    have hlt : (stk.take (stk.length - arity st)).length = stk.length - arity st := by rw [List.length_take]; omega
                    refine Hx.bd (cm_finish (h := stk.length) (h' := stk.length - arity st) (L := fr.length) ho hA3 ⟨by rw [hm3]; exact hI2.1, by rw [hm3]; exact hI2.2.1, by rw [hm3]; exact hI2.2.2⟩ (hM3.take (n := stk.length - arity st)) hlt (by omega) (by omega) (by omega) hX' hokq hS3 (by omega) hpl3) (fun σ4 v4 h4 => ?_)
                    obtain ⟨rfl, w1, w2, w3, w4, w5, w6, w7⟩ := h4
                    rw [n_fX2_work_257]
                    refine hgo σ4 _ rest fr _ hw (hFF.tr0 w1 (fun r hr hs => sM.up ho hFF.aE hr hs)) ⟨w2.1, w2.2.1, ?_, w4, fun q' h => ?_, w2.2.2, fun _ => w7, w6, ?_, ?_⟩ hokr hok2 (by rw [List.length_append, List.length_singleton, hlt]; omega)
                    · rw [List.length_append, List.length_singleton, hlt, List.length_append, List.length_singleton]; exact w3
                    · rw [List.getLast?_append] at h
                      simp at h
                      rw [← h]; exact w5
                    · rw [List.length_append, List.length_singleton, hlt]
                      exact fin_step hFin (by unfold ari; rw [if_neg hval, if_neg hncl, hstp])
                    · rw [List.length_append, List.length_singleton]; omega
                · obtain ⟨s9, n9, d9, hX, hn9⟩ := hG3.n hc0
                  rw [if_pos hc0] at hw
                  rw [cf_fits hX]
                  refine hx_cs (Hx.ce nb0 (fun c => ?_) (fun c => ?_))
                  · cases hw
                    rw [n_fX2_work_257]
                    exact h259 σ3 7 (by omega) (by omega) hFF hQ3 hpl3 a sts (by rw [show ca st a b' = 7 by omega])
                  · rw [lit30] at c
                    have c := Classical.not_not.mp c
                    omega
              · have e0 : (if ca st a b' = 7 then 0 else ca st a b') = ca st a b' := if_neg (by omega)
                rw [e0]
                rw [if_pos (by omega)] at hw
                cases hw
                refine Hx.ce (sm_eq (by omega) (by omega)) (fun c => by omega) (fun _ => ?_)
                exact h259 σ2 (ca st a b') (by omega) (by omega) hF2 hQ2 hpl2 _ _ rfl
        rw [mI hx1 5, hI1.2.1]
        refine hx_bs ?_
        refine Hx.ce (sm_eq (by omega) (by omega)) (fun c => ?_) (fun c => ?_)
        · have hfr0 : fr = [] := List.length_eq_zero_iff.mp c
          obtain ⟨ka1, oa1, pa1, ca1, na1, nn1, ⟨g1, g2, g3, g4, g5⟩, _, _, _, hit1⟩ := hs1.ac
          rw [g3]
          refine hx_bs ?_
          rw [(hit1 k it hj).2.2.1]
          refine hx_bs ?_
          rw [mP hx1]
          refine hx_bs ?_
          have hF3 := cWm (k := 7) (v := nI it.2.2.2.1) hF1.hp hx1
          have hFM3 := hF3.toM hx1 s75M
          have hB3 := hFM3.toB (fun r _ hr => Or.inl (by simp only [s1] at hr; omega))
          refine hstep _ (hM1'.tr0 hFM3 (fun r _ hr => s1M (by omega) hr)) hA1.wi (hs1.kB hB3 hQ1) ⟨(sI_wI_f (by decide)).trans hI1.1, (sI_wI_f (by decide)).trans hI1.2.1, (sI_wI_f (by decide)).trans hI1.2.2⟩ (hMs1.wi hF1.hp hx1 hQ1) (fun q h => (hgv1 q h).kW hF3 ⟨by simp only [s1]; omega, by simp only [s1]; omega, by simp only [s1]; omega⟩) (hS1.wi hF1.hp hx1 hQ1) ?_
          rw [hfr0]
          exact sI_wI_eq
        · refine hstep σ1 hM1' hA1 hs1 hI1 hMs1 hgv1 hS1 ?_
          have hne : fr ≠ [] := fun e => c (by rw [e]; rfl)
          rw [hm1, hpl hne]
          cases fr with
          | nil => exact absurd rfl hne
          | cons p fr' => rfl
    · -- the end of a sum
      have hcur : cur = [] := by
        rw [← hdr]
        exact List.drop_eq_nil_of_le (by omega)
      subst hcur
      refine hx_bs ?_
      refine Hx.ce (sm_eq (by omega) (by omega)) (fun c => ?_) (fun c => ?_)
      · have hfr0 : fr = [] := List.length_eq_zero_iff.mp c
        subst hfr0
        have hh1 : stk.length = 1 := by
          unfold Fin at hFin
          simpa [hts] using hFin
        unfold wrk at hw
        cases h0 : stk[0]? with
        | none => rw [h0] at hw; cases hw
        | some q =>
          rw [h0] at hw
          cases hw
          have hlast : stk.getLast? = some q := by rw [List.getLast?_eq_getElem?, hh1]; exact h0
          exact Hx.ret ⟨rfl, cM.rf hp, hQ, fun h => absurd rfl h, fun _ => ⟨hgv q hlast, (hM 0 q h0).2.2, hS⟩⟩
      · cases fr with
        | nil => exact absurd rfl c
        | cons p fr' =>
          obtain ⟨r0, bt⟩ := p
          unfold wrk at hw
          obtain ⟨v, hv, hw⟩ := ob hw
          obtain ⟨g1, ⟨g2, g3, g4⟩, g5⟩ := hFr
          have hlast : stk.getLast? = some v := by rw [List.getLast?_eq_getElem?]; exact hv
          have hvl := (List.getElem?_eq_some_iff.mp hv).1
          have hplx := hpl (by simp)
          rw [xk_75 hx]
          refine hx_bs ?_
          rw [n_fX2_leave, mI hx 6, hI.2.2]
          by_cases h200 : sts.length = 200
          · rw [if_pos h200] at hw
            cases hw
            refine Hx.bd (Q := fun σ' v' => σ' = σ ∧ v' = nI 8) ?_ ?_
            · refine hx_bs (Hx.ce (sm_lt (by omega) (by omega)) (fun c => by omega) (fun _ => Hx.ret ⟨rfl, rfl⟩))
            · rintro σ' v' ⟨rfl, rfl⟩
              rw [n_fX2_work_259]
              refine Hx.ce (sm_eq (by omega) (by omega)) (fun c => by omega) (fun _ => Hx.ret ⟨rfl, cM.rf hp, hQ, fun _ => hplx, fun h => absurd (show (8 : Nat) = 0 from h) (by omega)⟩)
          · rw [if_neg h200] at hw
            split at hw
            · cases hw
            rename_i hbt
            have h5 : sI σ (fid 6 5) (x + 75) = nI (fr'.length + 1) := hI.2.1
            have k9 := hx.kd 79 100 (by decide)
            have l9 := hx.nn 79 11 (by decide)
            have e79 : ldI σ (x + 79) (nI (fr'.length + 1)) = some (nI bt) := (sm_ld k9 (by rw [l9]; omega) (by omega)).trans (congrArg some g2)
            refine Hx.bd (Q := fun σ' v' => v' = nI 0 ∧ cM x (sM σ x o) 0 0 σ σ' ∧ WI σ' x b na fa o ns fs (stk.take bt ++ [v]) r0 fr' pl (sts ++ [(9, v)])) ?_ ?_
            · refine hx_bs (Hx.ce (sm_lt (by omega) (by omega)) (fun _ => ?_) (fun c => by omega))
              simp only [mI hx 1, hI.1, xf_6_4 hx, mI hx 5, h5, e79, sm_bind, sm_nm, sm_sub (show bt ≤ stk.length by omega), sm_sub (show 1 ≤ fr'.length + 1 by omega), Nat.add_sub_cancel, mP hx]
              have hF1 := cWm (k := 5) (v := nI fr'.length) hp hx
              have hFM1 := hF1.toM hx s75M
              have hA' : AF σ x b na fa ns fs fr' r0 := ⟨⟨hp, hx, hQ⟩, hB, g1, g5⟩
              have hA1 := hA'.wi (k := 5) (v := nI fr'.length)
              have hM1 := hM.wi (k := 5) (v := nI fr'.length) hp hx hQ
              have hS1 := hS.wi (k := 5) (v := nI fr'.length) hp hx hQ
              have hgv1 := (hgv v hlast).kW hF1 ⟨by simp only [s1]; omega, by simp only [s1]; omega, by simp only [s1]; omega⟩
              have hI1 : MIs (wI σ (fid 6 5) (x + 75) (nI fr'.length)) x stk.length fr'.length sts.length := ⟨(sI_wI_f (by decide)).trans hI.1, sI_wI_eq, (sI_wI_f (by decide)).trans hI.2.2⟩
              have e7 : sI (wI σ (fid 6 5) (x + 75) (nI fr'.length)) (fid 6 7) (x + 75) = nI pl := (sI_wI_f (by decide)).trans hplx
              generalize wI σ (fid 6 5) (x + 75) (nI fr'.length) = σ1 at *
              rw [xk_75 hA1.1.2.1]
              refine hx_bs ?_
              have hlt : (stk.take bt).length = bt := by rw [List.length_take]; omega
              refine Hx.bd (cm_finish (st := 9) (h := stk.length) (h' := bt) (L := fr'.length) ho hA1 hI1 (hM1.take (n := bt)) hlt (by omega) (by omega) (by omega) hgv1 (hM _ _ hv).2.2 hS1 (by omega) e7) (fun σ4 v4 h4 => ?_)
              obtain ⟨rfl, w1, w2, w3, w4, w5, w6, w7⟩ := h4
              refine Hx.ret ⟨rfl, (hFM1.mo (S' := sM σ x o) (fun r _ hr => s1M (by omega) hr) (Nat.le_refl _) (Nat.le_refl _)).tr0 w1 (fun r hr hs => sM.up ho hFM1.aE hr hs), w2.1, w2.2.1, ?_, w4, fun q' h => ?_, w2.2.2, fun _ => w7, w6, ?_, ?_⟩
              · rw [List.length_append, List.length_singleton, hlt, List.length_append, List.length_singleton]; exact w3
              · rw [List.getLast?_append] at h
                simp at h
                rw [← h]; exact w5
              · rw [List.length_append, List.length_singleton, hlt]
                exact fin_ret hFin
              · rw [List.length_append, List.length_singleton]; omega
            · rintro σ' v' ⟨rfl, w1, w2⟩
              rw [n_fX2_work_259]
              refine Hx.cs (fun _ => ?_) (fun c => absurd rfl c)
              refine hx_nm ?_
              rw [sm_add]
              refine Hx.mo (ih N (t + 1) σ' _ r0 fr' pl _ r (by omega) (by omega) hw w2 (hok2 (r0, bt) (by simp)) (fun p hp' => hok2 p (by simp [hp'])) (by rw [List.length_append, List.length_singleton, List.length_take]; omega)) (fun σ2 v h => h.pre ho w1 (fun _ _ h => h))
