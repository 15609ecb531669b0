/-! ===== the reference reads a token ===== -/
def tkR (k : Nat) : Nat := if k = 0 then 0 else if k = 1 then 3 else if k = 2 then 2 else if k = 3 then 4 else 1
/-- the token that is read is k -/
def TkN (σ : St) (m : Nat) (t : List Nat) (k : Tok) : Prop := Fi σ m 10 (nI (tkR k.1)) ∧ Fi σ m 11 (nI k.2.2.1) ∧ (k.1 = 1 → Fi σ m 12 (nI k.2.1)) ∧ (3 < k.1 → Fi σ m 12 (nI k.1)) ∧ (gon k → Fi σ m 13 (nI k.2.2.2)) ∧ (k.1 = 2 → NbF σ m t k.2.2.1 k.2.2.2)
theorem rt_word {σ0 : St} {m s : Nat} {t : List Nat} (hs : s ≤ t.length) : ∀ (n p v : Nat) (σ : St), t.length - p < n → s ≤ p → p ≤ ew isL t s → MS σ m → RTx σ m t → rfM m FT [] nV σ0 σ → sI σ (fid 16 11) m = sI σ0 (fid 16 11) m → Fi σ m 13 (nI p) → Fi σ m 12 (nI v) → v < 27 ^ (min (p - s) 6) → (p - s ≤ 6 → wvf t (6 - (p - s)) p v = wvf t 6 s 0) → (6 ≤ p - s → v = wvf t 6 s 0) →
    Hx (fX12_readsWord_7 n σ m (nI (p - s))) (fun σ' _ => rfM m FT [] nV σ0 σ' ∧ sI σ' (fid 16 11) m = sI σ0 (fid 16 11) m ∧ Fi σ' m 13 (nI (ew isL t s)) ∧ Fi σ' m 12 (nI (wvf t 6 s 0)) ∧ Fi σ' m 10 (nI (if 6 < ew isL t s - s then 4 else 3))) := by
  intro n
  induction n with
  | zero => intro p v σ h; omega
  | succ n ih =>
    intro p v σ hn hsp hpe hm h hR h11 h13 h12 hv27 hw hw6
    have hl := h.1.2
    have hb := h.b p
    have hel : ew isL t s ≤ t.length := ew_le hs
    have fin : p = ew isL t s → v = wvf t 6 s 0 → Hx (fX12_readsWord_85 σ m (nI (p - s))) (fun σ' _ => rfM m FT [] nV σ0 σ' ∧ sI σ' (fid 16 11) m = sI σ0 (fid 16 11) m ∧ Fi σ' m 13 (nI (ew isL t s)) ∧ Fi σ' m 12 (nI (wvf t 6 s 0)) ∧ Fi σ' m 10 (nI (if 6 < ew isL t s - s then 4 else 3))) := by
      intro e ev
      have key : ∀ u : Int32, u = nI (if 6 < ew isL t s - s then 4 else 3) → Hx (fX12_readsWord_97 σ m u) (fun σ' _ => rfM m FT [] nV σ0 σ' ∧ sI σ' (fid 16 11) m = sI σ0 (fid 16 11) m ∧ Fi σ' m 13 (nI (ew isL t s)) ∧ Fi σ' m 12 (nI (wvf t 6 s 0)) ∧ Fi σ' m 10 (nI (if 6 < ew isL t s - s then 4 else 3))) := by
        intro u hu
        rw [n_fX12_readsWord_97, rf_pI hm]
        refine hx_bs (Hx.ret ⟨hR.tr (rfM.wI (by decide)), (sI_wI_f (by decide)).trans h11, fi_wn (by rw [← e]; exact h13) (by decide), fi_wn (by rw [← ev]; exact h12) (by decide), by rw [hu]; exact fi_wI⟩)
      rw [n_fX12_readsWord_85, ← e]
      rw [← e] at key
      refine Hx.ce (sm_lt (by omega) (by omega)) (fun c => key _ (by rw [if_pos c])) (fun c => key _ (by rw [if_neg c]))
    have endv : (p < t.length → ¬ isL (tb t p) = true) → v = wvf t 6 s 0 := by
      intro q
      by_cases c : p - s ≤ 6
      · rw [← hw c]
        cases hk : 6 - (p - s) with
        | zero => rfl
        | succ k =>
          show _ = if p < t.length ∧ isL (tb t p) = true then _ else v
          rw [if_neg (fun q2 => q q2.1 q2.2)]
      · exact hw6 (by omega)
    rw [n_fX12_readsWord_7, fi_g hm h13]
    refine hx_bs ?_
    rw [h.g hm]
    refine hx_bs (Hx.ce (sm_le (by omega) (by omega)) (fun c => ?_) (fun c => ?_))
    · exact fin (by omega) (endv (fun q => by omega))
    · rw [rf_tape hm]
      refine hx_bs ?_
      try rw [fi_g hm h13]
      refine hx_bs ?_
      rw [h.l hm (by omega)]
      refine hx_bs ?_
      rw [rf_inN (by omega) (by omega) (by omega)]
      refine hx_cs (Hx.ce nb0 (fun c2 => ?_) (fun c2 => ?_))
      · have c3 : ¬ isL (tb t p) = true := fun q => c2 (isL_i.mp q)
        refine fin ?_ (endv (fun _ => c3))
        apply Classical.byContradiction
        intro q
        exact c3 (ew_mid (P := isL) (t := t) (p := s) hsp (by omega)).2
      · have c2 := Classical.not_not.mp c2
        have c3 : isL (tb t p) = true := isL_i.mpr c2
        have hlt : p < ew isL t s := by
          apply Nat.lt_of_not_le
          intro q
          have e : p = ew isL t s := by omega
          rw [e] at c3
          exact ew_at (P := isL) (t := t) (p := s) (by omega) c3
        have step : ∀ (v' : Nat) (σ1 : St), MS σ1 m → RTx σ1 m t → rfM m FT [] nV σ0 σ1 → sI σ1 (fid 16 11) m = sI σ0 (fid 16 11) m → Fi σ1 m 13 (nI p) → Fi σ1 m 12 (nI v') → v' < 27 ^ (min (p + 1 - s) 6) → (p + 1 - s ≤ 6 → wvf t (6 - (p + 1 - s)) (p + 1) v' = wvf t 6 s 0) → (6 ≤ p + 1 - s → v' = wvf t 6 s 0) →
            Hx (fX12_readsWord_69 (fX12_readsWord_7 n) σ1 m (nI (p - s))) (fun σ' _ => rfM m FT [] nV σ0 σ' ∧ sI σ' (fid 16 11) m = sI σ0 (fid 16 11) m ∧ Fi σ' m 13 (nI (ew isL t s)) ∧ Fi σ' m 12 (nI (wvf t 6 s 0)) ∧ Fi σ' m 10 (nI (if 6 < ew isL t s - s then 4 else 3))) := by
          intro v' σ1 hm1 h1 hR1 g11 g13 g12 g27 gw gw6
          rw [n_fX12_readsWord_69]
          refine hx_nm ?_
          rw [sm_add, fi_g hm1 g13]
          refine hx_bs ?_
          rw [sm_add, rf_pI hm1]
          refine hx_bs ?_
          rw [show p - s + 1 = p + 1 - s by omega]
          exact ih (p + 1) v' _ (by omega) (by omega) (by omega) hm1 (h1.keep (rfM.wI (F := FT) (A := []) (V := nV) (f := 13) (by decide)) (by decide) (by decide)) (hR1.tr (rfM.wI (by decide))) ((sI_wI_f (by decide)).trans g11) fi_wI (fi_wn g12 (by decide)) g27 gw gw6
        refine Hx.ce (sm_le (by omega) (by omega)) (fun c4 => ?_) (fun c4 => ?_)
        · have e := hw6 c4
          refine step v σ hm h hR h11 h13 h12 ?_ (fun q => by omega) (fun _ => e)
          rw [show min (p + 1 - s) 6 = min (p - s) 6 by omega]
          exact hv27
        · try rw [fi_g hm h12]
          refine hx_bs ?_
          try rw [rf_tape hm]
          refine hx_bs ?_
          try rw [fi_g hm h13]
          refine hx_bs ?_
          try rw [h.l hm (by omega)]
          refine hx_bs ?_
          have hv5 : v < 27 ^ 5 := Nat.lt_of_lt_of_le hv27 (Nat.pow_le_pow_right (by omega) (by omega))
          rw [sm_mul, sm_add, sm_sub (by omega), sm_add, rf_pI hm, show 27 * v + tb t p - 97 + 1 = 27 * v + (tb t p - 96) by omega]
          refine hx_bs ?_
          have hws := hw (by omega)
          rw [show 6 - (p - s) = 5 - (p - s) + 1 by omega] at hws
          have hws2 : (if p < t.length ∧ isL (tb t p) = true then wvf t (5 - (p - s)) (p + 1) (27 * v + (tb t p - 96)) else v) = wvf t 6 s 0 := hws
          rw [if_pos ⟨by omega, c3⟩] at hws2
          refine step (27 * v + (tb t p - 96)) _ hm (h.keep (rfM.wI (F := FT) (A := []) (V := nV) (f := 12) (by decide)) (by decide) (by decide)) (hR.tr (rfM.wI (by decide))) ((sI_wI_f (by decide)).trans h11) (fi_wn h13 (by decide)) fi_wI ?_ (fun q => ?_) (fun q => ?_)
          · rw [show min (p + 1 - s) 6 = min (p - s) 6 + 1 by omega, Nat.pow_succ]
            omega
          · rw [show 6 - (p + 1 - s) = 5 - (p - s) by omega]
            exact hws2
          · rw [show 5 - (p - s) = 0 by omega] at hws2
            exact hws2
theorem rt_readsWord {σ : St} {m s : Nat} {t : List Nat} (hm : MS σ m) (h : RTx σ m t) (hs : s ≤ t.length) (h13 : Fi σ m 13 (nI s)) : Hx (fX12_readsWord σ m) (fun σ' _ => rfM m FT [] nV σ σ' ∧ sI σ' (fid 16 11) m = sI σ (fid 16 11) m ∧ Fi σ' m 13 (nI (ew isL t s)) ∧ Fi σ' m 12 (nI (wvf t 6 s 0)) ∧ Fi σ' m 10 (nI (if 6 < ew isL t s - s then 4 else 3))) := by
  have hl := h.1.2
  rw [n_fX12_readsWord, rf_pI hm]
  refine hx_bs ?_
  have hR : rfM m FT [] nV σ (wI σ (fid 16 12) m (nI 0)) := rfM.wI (by decide)
  have := rt_word (σ0 := σ) hs FU s 0 (wI σ (fid 16 12) m (nI 0)) (by show t.length - s < 4294967296; omega) (Nat.le_refl _) ew_ge hm (h.keep hR (by decide) (by decide)) hR (sI_wI_f (by decide)) (fi_wn h13 (by decide)) fi_wI (by rw [Nat.sub_self]; decide) (fun _ => by rw [Nat.sub_self]) (fun q => by omega)
  rw [Nat.sub_self] at this
  exact this
theorem rt_isSign {σ : St} {b : Nat} (hb : b < 256) : fX12_isSign σ (nI b) = some (σ, nI (if sgn b = true then 1 else 0)) := by
  have key : sgb b → Hx (fX12_isSign_66 σ) (fun σ' v' => σ' = σ ∧ v' = nI (if sgn b = true then 1 else 0)) := by
    intro q
    rw [if_pos (sgn_i.mpr q), n_fX12_isSign_66]
    exact Hx.ret ⟨rfl, rfl⟩
  unfold sgb at key
  apply hx_eq
  rw [n_fX12_isSign]
  refine Hx.ce (sm_eq (by omega) (by omega)) (fun c => key (by omega)) (fun d1 => ?_)
  refine Hx.ce (sm_eq (by omega) (by omega)) (fun c => key (by omega)) (fun d2 => ?_)
  refine Hx.ce (sm_eq (by omega) (by omega)) (fun c => key (by omega)) (fun d3 => ?_)
  refine Hx.ce (sm_eq (by omega) (by omega)) (fun c => key (by omega)) (fun d4 => ?_)
  refine Hx.ce (sm_eq (by omega) (by omega)) (fun c => key (by omega)) (fun d5 => ?_)
  refine Hx.ce (sm_eq (by omega) (by omega)) (fun c => key (by omega)) (fun d6 => ?_)
  refine Hx.ce (sm_eq (by omega) (by omega)) (fun c => key (by omega)) (fun d7 => ?_)
  refine Hx.ce (sm_eq (by omega) (by omega)) (fun c => key (by omega)) (fun d8 => ?_)
  refine Hx.ce (sm_eq (by omega) (by omega)) (fun c => key (by omega)) (fun d9 => ?_)
  refine Hx.ce (sm_eq (by omega) (by omega)) (fun c => key (by omega)) (fun d10 => ?_)
  refine Hx.ce (sm_eq (by omega) (by omega)) (fun c => key (by omega)) (fun d11 => ?_)
  rw [if_neg (fun q => by have := sgn_i.mp q; unfold sgb at this; omega)]
  exact Hx.ret ⟨rfl, rfl⟩
theorem rt_reads_0 {σ0 : St} {m : Nat} {t : List Nat} : ∀ (n p : Nat) (σ : St), t.length - p < n → p ≤ t.length → MS σ m → RTx σ m t → rfM m FT [] nV σ0 σ → Fi σ m 13 (nI p) → Hx (fX12_reads_0 n σ m) (fun σ' _ => rfM m FT [] nV σ0 σ' ∧ TkN σ' m t (lx t p)) := by
  intro n
  induction n with
  | zero => intro p σ h; omega
  | succ n ih =>
    intro p σ hn hp hm h hR h13
    have hl := h.1.2
    have hb := h.b p
    have skip : isS (tb t p) = true → p < t.length → Hx (fX12_reads_26 (fX12_reads_0 n) σ m) (fun σ' _ => rfM m FT [] nV σ0 σ' ∧ TkN σ' m t (lx t p)) := by
      intro c d
      have e : lx t p = lx t (p + 1) := by unfold lx; rw [ew_y d c]
      rw [n_fX12_reads_26, fi_g hm h13]
      refine hx_bs ?_
      rw [sm_add, rf_pI hm]
      refine hx_bs ?_
      rw [e]
      exact ih (p + 1) _ (by omega) (by omega) hm (h.keep (rfM.wI (F := FT) (A := []) (V := nV) (f := 13) (by decide)) (by decide) (by decide)) (hR.tr (rfM.wI (by decide))) fi_wI
    rw [n_fX12_reads_0, fi_g hm h13]
    refine hx_bs ?_
    rw [rf_ck hm]
    refine hx_bs ?_
    rw [rt_hasByte hm h (by omega) (by omega) (by omega)]
    refine hx_cs (Hx.ce nb0 (fun c => ?_) (fun c => skip (isS_i.mpr (Or.inl (Classical.not_not.mp c))) (tb_at (Classical.not_not.mp c) (by omega))))
    try rw [fi_g hm h13]
    refine hx_bs ?_
    try rw [rf_ck hm]
    refine hx_bs ?_
    rw [rt_hasByte hm h (by omega) (by omega) (by omega)]
    refine hx_cs (Hx.ce nb0 (fun c2 => ?_) (fun c2 => skip (isS_i.mpr (Or.inr (Classical.not_not.mp c2))) (tb_at (Classical.not_not.mp c2) (by omega))))
    have es : ew isS t p = p := by
      by_cases d : p < t.length
      · exact ew_n d (fun q => by have := isS_i.mp q; omega)
      · exact ew_e (by omega)
    have elx : lx t p = lxs t p := by unfold lx; rw [es]
    obtain ⟨b1, b2, b3, b4, b5, b6, b7, b8⟩ := lxs_b hp
    rw [elx]
    try rw [fi_g hm h13]
    refine hx_bs ?_
    rw [rf_pI hm]
    refine hx_bs ?_
    rw [rf_pI (ms_wI hm)]
    refine hx_bs ?_
    have hR1 : rfM m FT [] nV σ (wI (wI σ (fid 16 11) m (nI p)) (fid 16 10) m (nI 0)) := (rfM.wI (by decide)).tr (rfM.wI (by decide))
    have hm1 : MS (wI (wI σ (fid 16 11) m (nI p)) (fid 16 10) m (nI 0)) m := hm
    have h1 := h.keep hR1 (by decide) (by decide)
    have g11 : Fi (wI (wI σ (fid 16 11) m (nI p)) (fid 16 10) m (nI 0)) m 11 (nI p) := fi_wn fi_wI (by decide)
    have g10 : Fi (wI (wI σ (fid 16 11) m (nI p)) (fid 16 10) m (nI 0)) m 10 (nI 0) := fi_wI
    have g13 : Fi (wI (wI σ (fid 16 11) m (nI p)) (fid 16 10) m (nI 0)) m 13 (nI p) := fi_wn (fi_wn h13 (by decide)) (by decide)
    have hR2 := hR.tr hR1
    generalize wI (wI σ (fid 16 11) m (nI p)) (fid 16 10) m (nI 0) = σ1 at *
    rw [fi_g hm1 g13]
    refine hx_bs ?_
    rw [h1.g hm1]
    refine hx_bs (Hx.ce (sm_eq (by omega) (by omega)) (fun d => ?_) (fun d => ?_))
    · have e0 : lxs t p = (0, 0, p, p) := by unfold lxs; rw [if_pos (by omega)]
      rw [e0]
      exact Hx.ret ⟨hR2, g10, g11, fun q => (by cases q), fun q => absurd q (by show ¬ 3 < 0; omega), fun q => absurd rfl q.1, fun q => by cases q⟩
    · rw [rf_tape hm1]
      refine hx_bs ?_
      try rw [fi_g hm1 g13]
      refine hx_bs ?_
      rw [h1.l hm1 (by omega)]
      refine hx_bs ?_
      rw [rf_inN (by omega) (by omega) (by omega)]
      refine hx_cs (Hx.ce nb0 (fun c3 => ?_) (fun c3 => ?_))
      · have c3' : ¬ isL (tb t p) = true := fun q => c3 (isL_i.mp q)
        try rw [rf_tape hm1]
        refine hx_bs ?_
        try rw [fi_g hm1 g13]
        refine hx_bs ?_
        try rw [h1.l hm1 (by omega)]
        refine hx_bs ?_
        rw [rt_isDigit hb]
        refine hx_cs (Hx.ce nb0 (fun c4 => ?_) (fun c4 => ?_))
        · try rw [rf_tape hm1]
          refine hx_bs ?_
          try rw [fi_g hm1 g13]
          refine hx_bs ?_
          try rw [h1.l hm1 (by omega)]
          refine hx_bs ?_
          rw [rf_pI hm1]
          refine hx_bs ?_
          have k12 : Fi (wI σ1 (fid 16 12) m (nI (tb t p))) m 12 (nI (tb t p)) := fi_wI
          rw [fi_g (ms_wI hm1) k12]
          refine hx_bs ?_
          rw [rt_isSign hb]
          have fin : ∀ (u : Nat) (k : Tok), k.2.2.1 = p → tkR k.1 = u → (k.1 = tb t p ∧ 3 < k.1 ∧ k.2.2.2 = p + 1 ∨ k.1 = 3) → Hx (fX12_reads_141 (wI σ1 (fid 16 12) m (nI (tb t p))) m m (nI u)) (fun σ' _ => rfM m FT [] nV σ0 σ' ∧ TkN σ' m t k) := by
            intro u k hk hu hor
            have j13 : Fi (wI (wI σ1 (fid 16 12) m (nI (tb t p))) (fid 16 10) m (nI u)) m 13 (nI p) := fi_wn (fi_wn g13 (by decide)) (by decide)
            rw [n_fX12_reads_141, rf_pI (ms_wI hm1)]
            refine hx_bs ?_
            rw [fi_g (ms_wI (ms_wI hm1)) j13]
            refine hx_bs ?_
            rw [sm_add, rf_pI (ms_wI (ms_wI hm1))]
            refine hx_bs (Hx.ret ⟨((hR2.tr (rfM.wI (by decide))).tr (rfM.wI (by decide))).tr (rfM.wI (by decide)), ?_, ?_, fun q => ?_, fun q => ?_, fun q => ?_, fun q => ?_⟩)
            · rw [hu]; exact fi_wn fi_wI (by decide)
            · rw [hk]; exact fi_wn (fi_wn (fi_wn g11 (by decide)) (by decide)) (by decide)
            · omega
            · rcases hor with ⟨q1, q2, q3⟩ | q1
              · rw [q1]; exact fi_wn (fi_wn k12 (by decide)) (by decide)
              · omega
            · rcases hor with ⟨q1, q2, q3⟩ | q1
              · rw [q3]; exact fi_wI
              · exact absurd q1 q.2
            · omega
          refine hx_cs (Hx.ce nb0 (fun c5 => ?_) (fun c5 => ?_))
          · have e0 : lxs t p = (3, 0, p, p) := by unfold lxs; rw [if_neg (by omega), if_neg c3', if_neg c4, if_neg c5]
            rw [e0]
            exact fin 4 _ rfl rfl (Or.inr rfl)
          · have c5 := Classical.not_not.mp c5
            have c6 := sgn_i.mp c5
            unfold sgb at c6
            have e0 : lxs t p = (tb t p, 0, p, p + 1) := by unfold lxs; rw [if_neg (by omega), if_neg c3', if_neg c4, if_pos c5]
            rw [e0]
            refine fin 1 _ rfl ?_ (Or.inl ⟨rfl, by show 3 < tb t p; omega, rfl⟩)
            show tkR (tb t p) = 1
            unfold tkR
            rw [if_neg (by omega), if_neg (by omega), if_neg (by omega), if_neg (by omega)]
        · have c4 := Classical.not_not.mp c4
          rw [rf_ck hm1]
          refine hx_bs ?_
          refine Hx.bd (rt_readsNumber hm1 h1 hp g13) (fun σ2 _ h2 => ?_)
          obtain ⟨r2, r11, r3⟩ := h2
          have j11 : Fi σ2 m 11 (nI p) := r11.trans g11
          cases he : eN t p with
          | none =>
            rw [he] at r3
            have e0 : lxs t p = (3, 0, p, p) := by unfold lxs; rw [if_neg (by omega), if_neg c3', if_pos c4, he]
            rw [e0]
            exact Hx.ret ⟨hR2.tr r2, r3, j11, fun q => (by cases q), fun q => absurd q (by show ¬ 3 < 3; omega), fun q => absurd rfl q.2, fun q => by cases q⟩
          | some e =>
            rw [he] at r3
            have e0 : lxs t p = (2, 0, p, e) := by unfold lxs; rw [if_neg (by omega), if_neg c3', if_pos c4, he]
            rw [e0]
            exact Hx.ret ⟨hR2.tr r2, r3.1, j11, fun q => (by cases q), fun q => absurd q (by show ¬ 3 < 2; omega), fun _ => r3.2.1, fun _ => r3.2.2⟩
      · have c3 := Classical.not_not.mp c3
        have c3' : isL (tb t p) = true := isL_i.mpr c3
        rw [rf_ck hm1]
        refine hx_bs ?_
        refine Hx.bd (rt_readsWord hm1 h1 hp g13) (fun σ2 _ h2 => ?_)
        obtain ⟨r2, r11, r13, r12, r10⟩ := h2
        have j11 : Fi σ2 m 11 (nI p) := r11.trans g11
        by_cases c7 : 6 < ew isL t p - p
        · have e0 : lxs t p = (3, 0, p, p) := by unfold lxs; rw [if_neg (by omega), if_pos c3', if_pos c7]
          rw [if_pos c7] at r10
          rw [e0]
          exact Hx.ret ⟨hR2.tr r2, r10, j11, fun q => (by cases q), fun q => absurd q (by show ¬ 3 < 3; omega), fun q => absurd rfl q.2, fun q => by cases q⟩
        · have e0 : lxs t p = (1, wvf t 6 p 0, p, ew isL t p) := by unfold lxs; rw [if_neg (by omega), if_pos c3', if_neg c7]
          rw [if_neg c7] at r10
          rw [e0]
          exact Hx.ret ⟨hR2.tr r2, r10, j11, fun _ => r12, fun q => absurd q (by show ¬ 3 < 1; omega), fun _ => r13, fun q => by cases q⟩
theorem rt_reads {σ : St} {m p : Nat} {t : List Nat} (hm : MS σ m) (h : RTx σ m t) (hp : p ≤ t.length) (h13 : Fi σ m 13 (nI p)) : Hx (fX12_reads σ m) (fun σ' _ => rfM m FT [] nV σ σ' ∧ TkN σ' m t (lx t p)) := by
  have hl := h.1.2
  rw [n_fX12_reads]
  exact rt_reads_0 FU p σ (by show t.length - p < 4294967296; omega) hp hm h rfM.rf h13
theorem rt_isNow {σ : St} {m b : Nat} {t : List Nat} {k : Tok} (hm : MS σ m) (h : TkN σ m t k) (hk : k.1 ≤ 94) (hb : 3 < b) (hb2 : b < 256) : fX12_isNow σ m (nI b) = some (σ, nI (if k.1 = b then 1 else 0)) := by
  obtain ⟨h1, h2, h3, h4, h5, h6⟩ := h
  have ht : tkR k.1 < 5 := by unfold tkR; repeat' split
                              all_goals omega
  apply hx_eq
  rw [n_fX12_isNow, fi_g hm h1]
  refine hx_bs (Hx.ce (sm_eq (by omega) (by omega)) (fun c => ?_) (fun c => ?_))
  · have hk3 : 3 < k.1 := by
      unfold tkR at c
      apply Nat.lt_of_not_le
      intro q
      obtain e | e | e | e : k.1 = 0 ∨ k.1 = 1 ∨ k.1 = 2 ∨ k.1 = 3 := by omega
      all_goals rw [e] at c; simp at c
    rw [fi_g hm (h4 hk3)]
    refine hx_bs (Hx.ce (sm_eq (by omega) (by omega)) (fun c2 => ?_) (fun c2 => ?_))
    · rw [if_pos c2]; exact Hx.ret ⟨rfl, rfl⟩
    · rw [if_neg c2]; exact Hx.ret ⟨rfl, rfl⟩
  · rw [if_neg]
    · exact Hx.ret ⟨rfl, rfl⟩
    · intro q
      apply c
      unfold tkR
      rw [if_neg (by omega), if_neg (by omega), if_neg (by omega), if_neg (by omega)]
