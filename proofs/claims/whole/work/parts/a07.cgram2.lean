/-! ===== the class' Reader: plain, minus, product, sum ===== -/
theorem cg_plain {x n o : Nat} {t ps : List Nat} {qc : St → Nat → Int32 → Int32 → Int32 → Option (St × Int32)} {q : St → Nat → Int32 → Option (St × Int32)} (ho : o ≤ 12) (hc : CC x t ps n o qc) (hq : o < 12 → CQ x t ps n 1 (o + 1) q) : CP x t ps n o (fX4_readPlain qc q) := by
  intro S L i σ hS h45 h hL
  obtain ⟨il, nl⟩ := h.il
  obtain ⟨g1, g2, g3, g4⟩ := h.g
  have hb := (tk_b (t := t) i).2.2.2.2.1
  have hnc := cnv_le L
  try rw [n_fX4_readPlain, g1]
  refine hx_bs ?_
  try rw [g4]
  refine hx_bs ?_
  try rw [cp_start h.1 il]
  refine hx_cs ?_
  try rw [g1]
  refine hx_bs ?_
  try rw [g4]
  refine hx_bs ?_
  try rw [cp_tk h.1 il]
  refine hx_cs (Hx.ce (sm_eq (by omega) (by omega)) (fun c1 => ?_) (fun c1 => ?_))
  · try rw [g3]
    refine hx_bs ?_
    try rw [g4]
    refine hx_bs ?_
    have hg : gon (tk t i) := ⟨by omega, by omega⟩
    have := h.1.2.1.2.2.nx il hg
    refine Hx.bd (cp_emit (it := (30, 0, 0, (tk t i).2.2.1, nmq t (tk t i).2.2.1)) (kn := 21) h (by omega) rfl rfl rfl rfl) (fun σ1 _ h1 => ?_)
    obtain ⟨r1, h1⟩ := h1
    obtain ⟨e2, r2, h2⟩ := h1.nc
    try rw [h1.g.2.2.1]
    refine hx_bs ?_
    try rw [e2]
    refine hx_bs ?_
    obtain ⟨e3, r3, h3⟩ := h2.nx hg
    try rw [h2.g.1]
    refine hx_bs ?_
    try rw [e3]
    refine hx_bs (Hx.ret ⟨(r1.tr r2 (fun _ q => q) (fun _ q => q)).tr r3 (fun _ q => q) (fun _ q => q), i + 1, L ++ [(30, 0, 0, (tk t i).2.2.1, nmq t (tk t i).2.2.1)], ?_, by omega, by rw [List.length_append, List.length_singleton]; omega, Or.inr ⟨rfl, Rt.st ?_ Rt.rf⟩⟩)
    · rw [cnv_app, cnv_1, if_pos rfl]
      exact h3
    · rw [sy_a]
      unfold syA
      rw [if_pos c1]
  · try rw [g1]
    refine hx_bs ?_
    try rw [g4]
    refine hx_bs ?_
    try rw [cp_tk h.1 il]
    refine hx_cs (Hx.ce (sm_eq (by omega) (by omega)) (fun c2 => ?_) (fun c2 => ?_))
    · have hg : gon (tk t i) := ⟨by omega, by omega⟩
      have hw := (tk_b (t := t) i).2.2.2.1 c2
      have hw2 := hw.2
      obtain ⟨e3, r3, h3⟩ := h.nx hg
      obtain ⟨il3, _⟩ := h3.il
      have hb3 := (tk_b (t := t) (i + 1)).2.2.2.2.1
      try rw [g1]
      refine hx_bs ?_
      try rw [g4]
      refine hx_bs ?_
      try rw [cp_word h.1 il c2]
      refine hx_cs ?_
      try rw [g1]
      refine hx_bs ?_
      try rw [e3]
      refine hx_bs ?_
      try rw [h3.g.1]
      refine hx_bs ?_
      try rw [h3.g.2.2.2]
      refine hx_bs ?_
      try rw [cp_tk h3.1 il3]
      refine hx_cs (Hx.ce (sm_eq (by omega) (by omega)) (fun c3 => ?_) (fun c3 => ?_))
      · rw [h3.g.2.2.2]
        refine hx_bs ?_
        refine Hx.bd (hc S L i _ hS c2 c3 h3 hL) (fun σ4 v4 h4 => ?_)
        obtain ⟨r4, i', L', p1, p2, p3, p4⟩ := h4
        have hz : ckZ v4 = some () := by
          rcases p4 with ⟨rfl, _⟩ | ⟨rfl, _⟩
          · exact ckZ0
          · exact ckZ1
        try rw [hz]
        exact hx_bs (Hx.ret ⟨r3.tr r4 (fun _ q => q) (fun _ q => q), i', L', p1, p2, p3, p4⟩)
      · refine hx_bs ?_
        have key : ∀ (it : It) (σ' : St), it = wdi ps (tk t i).2.1 (tk t i).2.2.1 → it.1 ≠ 30 → rX x fP aP (wI σ (fid 8 6) (x + 65) (nI (i + 1))) σ' → RP σ' x t ps n (i + 1) (L ++ [it]) (cnv L) → Pst0 x t ps n S L i σ σ' (nI 1) := by
          intro it σ' hi h30 r h9
          refine ⟨r3.tr r (fun _ q => q) (fun _ q => q), i + 1, L ++ [it], ?_, by omega, by rw [List.length_append, List.length_singleton]; omega, Or.inr ⟨rfl, Rt.st ?_ Rt.rf⟩⟩
          · rw [cnv_app, cnv_1, if_neg h30]
            exact h9
          · rw [sy_a]
            unfold syA
            rw [if_neg c1, if_neg (by omega), if_neg (fun q => q c2), if_pos c3, hi]
        rw [n_fX4_readWord, h3.g.2.2.2]
        have hfx : ∀ k, fix ps (tk t i).2.1 = some k → k < 4 := fun k hk => Nat.lt_of_lt_of_le (fix_lt hk) h.1.2.2.2.1
        refine Hx.bd (Q := Pst0 x t ps n S L i σ) ?_ (fun σ4 v4 h4 => ?_)
        · refine hx_bs ?_
          try rw [cp_param h3.1.1.1 h3.1.2.2 (by omega)]
          refine hx_cs (Hx.ce (oi_m1 (fun k hk => by have := hfx k hk; omega)) (fun c4 => ?_) (fun c4 => ?_))
          · rw [h3.g.2.2.2]
            refine hx_bs ?_
            refine Hx.bd (cp_emit (it := (31, (tk t i).2.1, 0, (tk t i).2.2.1, q0)) (kn := 22) h3 (by omega) rfl rfl rfl rfl) (fun σ5 _ h5 => ?_)
            refine Hx.ret (key _ σ5 ?_ (by simp) h5.1 h5.2)
            unfold wdi
            rw [c4]
          · cases hf : fix ps (tk t i).2.1 with
            | none => exact absurd hf c4
            | some k =>
              rw [h3.g.2.2.2]
              refine hx_bs ?_
              refine Hx.bd (cp_emit (it := (32, k, 0, (tk t i).2.2.1, q0)) (kn := 23) h3 (by omega) rfl (sm_iz k).symm rfl rfl) (fun σ5 _ h5 => ?_)
              refine Hx.ret (key _ σ5 ?_ (by simp) h5.1 h5.2)
              unfold wdi
              rw [hf]
        · have hz : ckZ v4 = some () := by
            obtain ⟨_, _, _, _, _, _, p4⟩ := h4
            rcases p4 with ⟨rfl, _⟩ | ⟨rfl, _⟩
            · exact ckZ0
            · exact ckZ1
          try rw [hz]
          exact hx_bs (Hx.ret h4)
    · try rw [g1]
      refine hx_bs ?_
      try rw [g4]
      refine hx_bs ?_
      try rw [cp_tk h.1 il]
      refine hx_cs (Hx.ce (sm_eq (by omega) (by omega)) (fun c3 => ?_) (fun c3 => ?_))
      · refine Hx.ce (sm_lt (by omega) (by omega)) (fun c4 => ?_) (fun c4 => ?_)
        · have hg : gon (tk t i) := ⟨by omega, by omega⟩
          obtain ⟨e3, r3, h3⟩ := h.nx hg
          try rw [g1]
          refine hx_bs ?_
          try rw [e3]
          refine hx_bs ?_
          try rw [h3.g.2.2.2]
          refine hx_bs ?_
          rw [sm_add]
          have hm : Rt t ps (false, S, L, i) (.inl (false, (40, (tk t i).2.2.1, none, 1) :: S, L, i + 1)) := by
            refine Rt.st ?_ Rt.rf
            rw [sy_a]
            unfold syA
            rw [if_neg c1, if_pos (Or.inr c3), hS, if_neg (by omega), if_neg (by omega)]
          refine Hx.bd (hq c4 ((40, (tk t i).2.2.1, none, 1) :: S) L (i + 1) _ (by rw [opn_cons, hS]; show 1 + o = o + 1; omega) (fun u hu => by cases hu; exact fun q => q.1 rfl) h3 (by omega)) (fun σ2 v2 h2 => ?_)
          obtain ⟨r2, i', L', p1, p2, p3, p4⟩ := h2
          have hRR := r3.tr r2 (fun _ q => q) (fun _ q => q)
          obtain ⟨il', _⟩ := p1.il
          have hb' := (tk_b (t := t) i').2.2.2.2.1
          rcases p4 with ⟨rfl, p4⟩ | ⟨rfl, P, I, hP, p4, p5, p6⟩
          · refine Hx.ce (sm_eq (by omega) (by omega)) (fun _ => ?_) (fun c => absurd rfl c)
            exact Hx.ret ⟨hRR, i', L', p1, by omega, by omega, Or.inl ⟨rfl, hm.tr p4⟩⟩
          · refine Hx.ce (sm_eq (by omega) (by omega)) (fun c => absurd c (by omega)) (fun _ => ?_)
            obtain ⟨k1, k2, k3, k4⟩ := p1.g
            try rw [k1]
            refine hx_bs ?_
            try rw [k4]
            refine hx_bs ?_
            try rw [cp_tk p1.1 il']
            refine hx_cs (Hx.ce (sm_eq (by omega) (by omega)) (fun c => ?_) (fun c => ?_))
            · obtain ⟨e4, r4, h4⟩ := p1.nx ⟨by omega, by omega⟩
              try rw [k1]
              refine hx_bs ?_
              try rw [e4]
              refine hx_bs (Hx.ret ⟨hRR.tr r4 (fun _ q => q) (fun _ q => q), i' + 1, L', h4, by omega, by omega, Or.inr ⟨rfl, (hm.tr p4).tr (Rt.st ?_ Rt.rf)⟩⟩)
              rw [sy_b]
              unfold syB
              rw [if_neg (by omega), if_pos c, stl_w hP (fun q => q.1 rfl), p5]
              show Sum.inl (true, S, (I ++ P.map emw) ++ [], i' + 1) = _
              rw [List.append_nil]
            · refine Hx.ret ⟨hRR, i', L', p1, by omega, by omega, Or.inl ⟨rfl, (hm.tr p4).tr (Rt.en ?_)⟩⟩
              exact syB_err hP rfl p6 c (Or.inr rfl)
        · refine Hx.ret ⟨rX.rf, i, L, h, by omega, by omega, Or.inl ⟨rfl, Rt.en ?_⟩⟩
          rw [sy_a]
          unfold syA
          rw [if_neg c1, if_pos (Or.inr c3), hS, if_pos (by omega)]
      · refine Hx.ret ⟨rX.rf, i, L, h, by omega, by omega, Or.inl ⟨rfl, Rt.en ?_⟩⟩
        rw [sy_a]
        unfold syA
        rw [if_neg c1, if_neg (by omega), if_pos c2]
theorem cg_minus_106 {x n o i j : Nat} {t ps : List Nat} {qo qp : St → Nat → Int32 → Option (St × Int32)} {S : List Wt} {L Lc : List It} {σ0 σ : St} (h12 : o ≤ 12) (hL : L.length ≤ i) (ho : CO x t ps n o qo) (hS : opn S = o) (hij : i ≤ j) (h33 : (tk t j).1 ≠ 33) (h : RP σ x t ps n j Lc (cnv Lc)) (hLc : Lc.length + i ≤ L.length + j)
    (hr : Rt t ps (false, S, L, i) (.inl (true, S, Lc, j))) (hR : rX x fP aP σ0 σ) : Hx (fX4_readMinus_106 qo qp σ (x + 65) (nI o)) (Pst x t ps n 3 S L i σ0) := by
  obtain ⟨il, nl⟩ := h.il
  obtain ⟨g1, g2, g3, g4⟩ := h.g
  have hb := (tk_b (t := t) j).2.2.2.2.1
  try rw [n_fX4_readMinus_106, g1]
  refine hx_bs ?_
  try rw [g4]
  refine hx_bs ?_
  try rw [cp_tk h.1 il]
  refine hx_cs (Hx.ce (sm_eq (by omega) (by omega)) (fun c => ?_) (fun c => ?_))
  · try rw [g1]
    refine hx_bs ?_
    try rw [g4]
    refine hx_bs ?_
    try rw [cp_start h.1 il]
    refine hx_cs ?_
    try rw [g4]
    refine hx_bs ?_
    have hg : gon (tk t j) := ⟨by omega, by omega⟩
    refine Hx.bd (ho S Lc j σ (6, (tk t j).2.2.1, none, 1) rfl hS hg h (by omega)) (fun σ2 v h2 => ?_)
    have e9 : sy t ps (true, S, Lc, j) = if opn S = 12 then .inr (.inl j) else .inl (false, (6, (tk t j).2.2.1, none, 1) :: S, Lc, j + 1) := by
      rw [sy_b]
      unfold syB
      rw [if_neg h33, if_neg (by omega), if_pos c]
    rcases h2 with ⟨c12, rfl, rfl⟩ | ⟨c12, h2⟩
    · refine Hx.ce (sm_eq (by omega) (by omega)) (fun _ => ?_) (fun c => absurd rfl c)
      refine Hx.ret ⟨hR, j, Lc, h, hij, hLc, Or.inl ⟨rfl, hr.tr (Rt.en ?_)⟩⟩
      rw [e9, if_pos (by omega)]
    · obtain ⟨r2, i', L', p1, p2, p3, p4⟩ := h2
      have hm := hr.tr (Rt.st (b := (false, (6, (tk t j).2.2.1, none, 1) :: S, Lc, j + 1)) (by rw [e9, if_neg (by omega)]) Rt.rf)
      have il' := p1.il
      rcases p4 with ⟨rfl, p4⟩ | ⟨rfl, P, I, hP, p4, p5, p6⟩
      · refine Hx.ce (sm_eq (by omega) (by omega)) (fun _ => ?_) (fun c => absurd rfl c)
        exact Hx.ret ⟨hR.tr r2 (fun _ q => q) (fun _ q => q), i', L', p1, by omega, by omega, Or.inl ⟨rfl, hm.tr p4⟩⟩
      · refine Hx.ce (sm_eq (by omega) (by omega)) (fun c => absurd c (by omega)) (fun _ => ?_)
        try rw [p1.g.2.2.2]
        refine hx_bs ?_
        refine Hx.bd (cp_emit (it := (6, 0, 0, (tk t j).2.2.1, q0)) (kn := 6) p1 (by omega) rfl rfl rfl rfl) (fun σ3 _ h3 => ?_)
        refine Hx.ret ⟨(hR.tr r2 (fun _ q => q) (fun _ q => q)).tr h3.1 (fun _ q => q) (fun _ q => q), i', L' ++ [(6, 0, 0, (tk t j).2.2.1, q0)], ?_, by omega, by rw [List.length_append, List.length_singleton]; omega, Or.inr ⟨rfl, P ++ [(6, (tk t j).2.2.1, none, 1)], I, fun w hw => ?_, ?_, ?_, p6⟩⟩
        · rw [cnv_app, cnv_1, if_neg (by simp), Nat.add_zero]; exact h3.2
        · rcases List.mem_append.mp hw with hw | hw
          · exact hP w hw
          · rw [List.mem_singleton.mp hw]; exact ⟨by simp, by show 3 ≤ rk 6; decide⟩
        · rw [List.append_assoc]; exact hm.tr p4
        · rw [List.map_append, ← List.append_assoc, ← p5]; rfl
  · exact Hx.ret ⟨hR, j, Lc, h, hij, hLc, Or.inr ⟨rfl, [], Lc, fun w hw => (by cases hw), hr, by rw [List.map_nil, List.append_nil], ⟨h33, c, fun q => absurd q (by omega), fun q => absurd q (by omega)⟩⟩⟩
theorem cg_minus_53 {x n o i : Nat} {t ps : List Nat} {qo qp : St → Nat → Int32 → Option (St × Int32)} {S : List Wt} {L : List It} {σ0 : St} (h12 : o ≤ 12) (hL : L.length ≤ i) (ho : CO x t ps n o qo) (hS : opn S = o) : ∀ (f j : Nat) (Lc : List It) (σ : St), n - j < f → i ≤ j → RP σ x t ps n j Lc (cnv Lc) → Lc.length + i ≤ L.length + j →
    Rt t ps (false, S, L, i) (.inl (true, S, Lc, j)) → rX x fP aP σ0 σ → Hx (fX4_readMinus_53 qo qp f σ (x + 65) (nI o)) (Pst x t ps n 3 S L i σ0) := by
  intro f
  induction f with
  | zero => intro j Lc σ h; omega
  | succ f ih =>
    intro j Lc σ hf hij h hLc hr hR
    obtain ⟨il, nl⟩ := h.il
    obtain ⟨g1, g2, g3, g4⟩ := h.g
    have hb := (tk_b (t := t) j).2.2.2.2.1
    try rw [n_fX4_readMinus_53, g1]
    refine hx_bs ?_
    try rw [g2]
    refine hx_bs (Hx.ce (sm_le (by omega) (by omega)) (fun c => absurd c (by omega)) (fun _ => ?_))
    refine hx_bs ?_
    try rw [g4]
    refine hx_bs ?_
    try rw [cp_tk h.1 il]
    refine hx_cs (Hx.ce (sm_eq (by omega) (by omega)) (fun c => ?_) (fun c => ?_))
    · try rw [g1]
      refine hx_bs ?_
      try rw [g4]
      refine hx_bs ?_
      try rw [cp_start h.1 il]
      refine hx_cs ?_
      try rw [g4]
      refine hx_bs ?_
      have hg : gon (tk t j) := ⟨by omega, by omega⟩
      have := h.1.2.1.2.2.nx il hg
      refine Hx.bd (cp_emit (it := (7, 0, 0, (tk t j).2.2.1, q0)) (kn := 7) h (by omega) rfl rfl rfl rfl) (fun σ1 _ h1 => ?_)
      obtain ⟨r1, h1⟩ := h1
      obtain ⟨e2, r2, h2⟩ := h1.nx hg
      try rw [h1.g.1]
      refine hx_bs ?_
      try rw [e2]
      refine hx_bs ?_
      refine ih (j + 1) (Lc ++ [(7, 0, 0, (tk t j).2.2.1, q0)]) _ (by omega) (by omega) ?_ (by rw [List.length_append, List.length_singleton]; omega) (hr.tr (Rt.st ?_ Rt.rf)) ((hR.tr r1 (fun _ q => q) (fun _ q => q)).tr r2 (fun _ q => q) (fun _ q => q))
      · rw [cnv_app, cnv_1, if_neg (by simp), Nat.add_zero]; exact h2
      · rw [sy_b]
        unfold syB
        rw [if_pos c]
    · exact cg_minus_106 h12 hL ho hS hij c h hLc hr hR
theorem cg_minus {x n o : Nat} {t ps : List Nat} {qo qp : St → Nat → Int32 → Option (St × Int32)} (h12 : o ≤ 12) (ho : CO x t ps n o qo) (hp : CP x t ps n o qp) : CM x t ps n o (fX4_readMinus qo qp) := by
  intro S L i σ hS h hL
  obtain ⟨il, nl⟩ := h.il
  obtain ⟨g1, g2, g3, g4⟩ := h.g
  have hb := (tk_b (t := t) i).2.2.2.2.1
  try rw [n_fX4_readMinus, g1]
  refine hx_bs ?_
  try rw [g4]
  refine hx_bs ?_
  try rw [cp_start h.1 il]
  refine hx_cs ?_
  try rw [g1]
  refine hx_bs ?_
  try rw [g4]
  refine hx_bs ?_
  try rw [cp_tk h.1 il]
  refine hx_cs (Hx.ce (sm_eq (by omega) (by omega)) (fun c => ?_) (fun c => ?_))
  · try rw [g4]
    refine hx_bs ?_
    have hg : gon (tk t i) := ⟨by omega, by omega⟩
    have e9 : sy t ps (false, S, L, i) = if opn S = 12 then .inr (.inl i) else .inl (false, (8, (tk t i).2.2.1, none, 1) :: S, L, i + 1) := by
      rw [sy_a]
      unfold syA
      rw [if_neg (by omega), if_pos (Or.inl c), if_pos c]
    refine Hx.bd (ho S L i σ (8, (tk t i).2.2.1, none, 1) rfl hS hg h hL) (fun σ2 v h2 => ?_)
    rcases h2 with ⟨c12, rfl, rfl⟩ | ⟨c12, h2⟩
    · refine Hx.ce (sm_eq (by omega) (by omega)) (fun _ => ?_) (fun c => absurd rfl c)
      refine Hx.ret ⟨rX.rf, i, L, h, by omega, by omega, Or.inl ⟨rfl, Rt.en ?_⟩⟩
      rw [e9, if_pos (by omega)]
    · obtain ⟨r2, i', L', p1, p2, p3, p4⟩ := h2
      have hm : Rt t ps (false, S, L, i) (.inl (false, (8, (tk t i).2.2.1, none, 1) :: S, L, i + 1)) := Rt.st (by rw [e9, if_neg (by omega)]) Rt.rf
      have il' := p1.il
      rcases p4 with ⟨rfl, p4⟩ | ⟨rfl, P, I, hP, p4, p5, p6⟩
      · refine Hx.ce (sm_eq (by omega) (by omega)) (fun _ => ?_) (fun c => absurd rfl c)
        exact Hx.ret ⟨r2, i', L', p1, by omega, by omega, Or.inl ⟨rfl, hm.tr p4⟩⟩
      · refine Hx.ce (sm_eq (by omega) (by omega)) (fun c => absurd c (by omega)) (fun _ => ?_)
        try rw [p1.g.2.2.2]
        refine hx_bs ?_
        refine Hx.bd (cp_emit (it := (8, 0, 0, (tk t i).2.2.1, q0)) (kn := 8) p1 (by omega) rfl rfl rfl rfl) (fun σ3 _ h3 => ?_)
        refine Hx.ret ⟨r2.tr h3.1 (fun _ q => q) (fun _ q => q), i', L' ++ [(8, 0, 0, (tk t i).2.2.1, q0)], ?_, by omega, by rw [List.length_append, List.length_singleton]; omega, Or.inr ⟨rfl, P ++ [(8, (tk t i).2.2.1, none, 1)], I, fun w hw => ?_, ?_, ?_, p6⟩⟩
        · rw [cnv_app, cnv_1, if_neg (by simp), Nat.add_zero]; exact h3.2
        · rcases List.mem_append.mp hw with hw | hw
          · exact hP w hw
          · rw [List.mem_singleton.mp hw]; exact ⟨by simp, by show 3 ≤ rk 8; decide⟩
        · rw [List.append_assoc]; exact hm.tr p4
        · rw [List.map_append, ← List.append_assoc, ← p5]; rfl
  · try rw [g4]
    refine hx_bs ?_
    refine Hx.bd (hp S L i σ hS c h hL) (fun σ2 v h2 => ?_)
    obtain ⟨r2, i', L', p1, p2, p3, p4⟩ := h2
    rcases p4 with ⟨rfl, p4⟩ | ⟨rfl, p4⟩
    · refine Hx.ce (sm_eq (by omega) (by omega)) (fun _ => ?_) (fun c => absurd rfl c)
      exact Hx.ret ⟨r2, i', L', p1, p2, p3, Or.inl ⟨rfl, p4⟩⟩
    · refine Hx.ce (sm_eq (by omega) (by omega)) (fun c => absurd c (by omega)) (fun _ => ?_)
      have := p1.il
      exact cg_minus_53 h12 hL ho hS FU i' L' σ2 (by show n - i' < 4294967296; omega) p2 p1 p3 p4 r2
theorem cg_step {σ : St} {b : Nat} (hb : b < 2147483648) : fX4_productStep σ (nI b) = some (σ, nI (if 3 ≤ sgo b then sgo b else 0)) := by
  apply hx_eq
  rw [n_fX4_productStep]
  refine Hx.ce (sm_eq hb (by omega)) (fun c => ?_) (fun c1 => ?_)
  · subst c; exact Hx.ret ⟨rfl, rfl⟩
  refine Hx.ce (sm_eq hb (by omega)) (fun c => ?_) (fun c2 => ?_)
  · subst c; exact Hx.ret ⟨rfl, rfl⟩
  refine Hx.ce (sm_eq hb (by omega)) (fun c => ?_) (fun c3 => ?_)
  · subst c; exact Hx.ret ⟨rfl, rfl⟩
  have : sgo b < 3 := by
    unfold sgo
    rw [if_neg c2, if_neg c3, if_neg c1]
    split
    · omega
    · split <;> omega
  rw [if_neg (by omega)]
  exact Hx.ret ⟨rfl, rfl⟩
theorem sgo_b (b : Nat) : sgo b ≤ 5 := by
  unfold sgo
  repeat' split
  all_goals omega
theorem sgo_rk {b : Nat} (h : 0 < sgo b) : rk (sgo b) = if 3 ≤ sgo b then 2 else 1 := by
  have := sgo_b b
  unfold rk
  by_cases c : 3 ≤ sgo b
  · rw [if_pos c, if_neg (by omega), if_pos (by omega)]
  · rw [if_neg c, if_pos (by omega)]
theorem opw_sgo {b p : Nat} {o : Option Nat} {m : Nat} : opw (sgo b, p, o, m) = 0 := by
  have := sgo_b b
  unfold opw
  rw [if_neg]
  show ¬ (sgo b = 8 ∨ sgo b = 6 ∨ sgo b = 40)
  omega
theorem ckd_sgo {b p : Nat} (h : 0 < sgo b) : ckd (sgo b, 0, 0, p, q0) = sgo b := by
  have := sgo_b b
  unfold ckd
  show (if sgo b = 30 then _ else if sgo b = 31 then _ else if sgo b = 32 then _ else if sgo b = 33 then _ else sgo b) = _
  rw [if_neg (by omega), if_neg (by omega), if_neg (by omega), if_neg (by omega)]
/-- behind an operand: a sign of two values -/
theorem syB_two {t ps : List Nat} {P S : List Wt} {I : List It} {i m : Nat} (hP : ∀ w ∈ P, w.1 ≠ 40 ∧ m ≤ rk w.1) (hS : hdk m S) (h0 : 0 < sgo (tk t i).1) (hm : rk (sgo (tk t i).1) = m) : sy t ps (true, P ++ S, I, i) = .inl (false, (sgo (tk t i).1, (tk t i).2.2.1, none, 1) :: S, I ++ P.map emw, i + 1) := by
  have hs := sgo_s h0
  rw [sy_b]
  unfold syB
  rw [if_neg hs.2.1, if_neg hs.2.2.1, if_neg hs.2.2.2.1, if_neg hs.2.2.2.2.1, if_pos h0, hm, stl_app hP, stl_stop hS]
theorem cg_product_10 {x n o i : Nat} {t ps : List Nat} {q : St → Nat → Int32 → Option (St × Int32)} {S : List Wt} {L : List It} {σ0 : St} (hL : L.length ≤ i) (hq : CM x t ps n o q) (hS : opn S = o) (hd : hdk 2 S) : ∀ (f j : Nat) (P : List Wt) (I Lc : List It) (σ : St), n - j < f → i ≤ j → RP σ x t ps n j Lc (cnv Lc) → Lc.length + i ≤ L.length + j →
    (∀ w ∈ P, w.1 ≠ 40 ∧ 2 ≤ rk w.1) → Rt t ps (false, S, L, i) (.inl (true, P ++ S, I, j)) → Lc = I ++ P.map emw → spc 3 (tk t j).1 → rX x fP aP σ0 σ → Hx (fX4_readProduct_10 q f σ (x + 65) (nI o)) (Pst x t ps n 2 S L i σ0) := by
  intro f
  induction f with
  | zero => intro j P I Lc σ h; omega
  | succ f ih =>
    intro j P I Lc σ hf hij h hLc hP hr he hs hR
    obtain ⟨il, nl⟩ := h.il
    obtain ⟨g1, g2, g3, g4⟩ := h.g
    have hb := (tk_b (t := t) j).2.2.2.2.1
    have hsb := sgo_b (tk t j).1
    try rw [n_fX4_readProduct_10, g1]
    refine hx_bs ?_
    try rw [g2]
    refine hx_bs (Hx.ce (sm_le (by omega) (by omega)) (fun c => absurd c (by omega)) (fun _ => ?_))
    refine hx_bs ?_
    try rw [g4]
    refine hx_bs ?_
    try rw [cp_tk h.1 il]
    refine hx_cs ?_
    try rw [cg_step (by omega)]
    refine hx_cs ?_
    by_cases c : 3 ≤ sgo (tk t j).1
    · have hgs := sgo_s (show 0 < sgo (tk t j).1 by omega)
      have hg : gon (tk t j) := ⟨hgs.1, hgs.2.2.2.2.2.1⟩
      rw [if_pos c]
      refine Hx.ce (sm_eq (by omega) (by omega)) (fun c => absurd c (by omega)) (fun _ => ?_)
      try rw [g1]
      refine hx_bs ?_
      try rw [g4]
      refine hx_bs ?_
      try rw [cp_tk h.1 il]
      refine hx_cs ?_
      try rw [cg_step (by omega), if_pos c]
      refine hx_cs ?_
      try rw [g1]
      refine hx_bs ?_
      try rw [g4]
      refine hx_bs ?_
      try rw [cp_start h.1 il]
      refine hx_cs ?_
      obtain ⟨e2, r2, h2⟩ := h.nx hg
      try rw [g1]
      refine hx_bs ?_
      try rw [e2]
      refine hx_bs ?_
      try rw [h2.g.2.2.2]
      refine hx_bs ?_
      have hrk := sgo_rk (show 0 < sgo (tk t j).1 by omega)
      rw [if_pos c] at hrk
      have hm := hr.tr (Rt.st (syB_two (ps := ps) (I := I) hP hd (by omega) hrk) Rt.rf)
      rw [← he] at hm
      refine Hx.bd (hq ((sgo (tk t j).1, (tk t j).2.2.1, none, 1) :: S) Lc (j + 1) _ (by rw [opn_cons, opw_sgo, hS]; omega) h2 (by omega)) (fun σ3 v h3 => ?_)
      obtain ⟨r3, i', L', p1, p2, p3, p4⟩ := h3
      have hRR := (hR.tr r2 (fun _ q => q) (fun _ q => q)).tr r3 (fun _ q => q) (fun _ q => q)
      have il' := p1.il
      rcases p4 with ⟨rfl, p4⟩ | ⟨rfl, P', I', hP', p4, p5, p6⟩
      · refine Hx.ce (sm_eq (by omega) (by omega)) (fun _ => ?_) (fun c => absurd rfl c)
        exact Hx.ret ⟨hRR, i', L', p1, by omega, by omega, Or.inl ⟨rfl, hm.tr p4⟩⟩
      · refine Hx.ce (sm_eq (by omega) (by omega)) (fun c => absurd c (by omega)) (fun _ => ?_)
        try rw [p1.g.2.2.2]
        refine hx_bs ?_
        refine Hx.bd (cp_emit (it := (sgo (tk t j).1, 0, 0, (tk t j).2.2.1, q0)) p1 (by omega) (ckd_sgo (by omega)) (by rw [if_neg (show ¬ sgo (tk t j).1 = 30 by omega)]) rfl rfl) (fun σ4 _ h4 => ?_)
        refine ih i' (P' ++ [(sgo (tk t j).1, (tk t j).2.2.1, none, 1)]) I' (L' ++ [(sgo (tk t j).1, 0, 0, (tk t j).2.2.1, q0)]) σ4 (by omega) (by omega) ?_ (by rw [List.length_append, List.length_singleton]; omega) (fun w hw => ?_) ?_ ?_ p6 (hRR.tr h4.1 (fun _ q => q) (fun _ q => q))
        · rw [cnv_app, cnv_1, if_neg (show ¬ sgo (tk t j).1 = 30 by omega), Nat.add_zero]; exact h4.2
        · rcases List.mem_append.mp hw with hw | hw
          · have := hP' w hw; exact ⟨this.1, by omega⟩
          · rw [List.mem_singleton.mp hw]
            refine ⟨?_, ?_⟩
            · show sgo (tk t j).1 ≠ 40; omega
            · show 2 ≤ rk (sgo (tk t j).1); omega
        · rw [List.append_assoc]; exact hm.tr p4
        · rw [List.map_append, ← List.append_assoc, ← p5]; rfl
    · rw [if_neg c]
      refine Hx.ce (sm_eq (by omega) (by omega)) (fun _ => ?_) (fun c => absurd rfl c)
      exact Hx.ret ⟨hR, j, Lc, h, hij, hLc, Or.inr ⟨rfl, P, I, hP, hr, he, ⟨hs.1, hs.2.1, fun _ => by omega, fun q => absurd q (by omega)⟩⟩⟩
theorem cg_product {x n o : Nat} {t ps : List Nat} {q : St → Nat → Int32 → Option (St × Int32)} (hq : CM x t ps n o q) : CQ x t ps n 2 o (fX4_readProduct q) := by
  intro S L i σ hS hd h hL
  try rw [n_fX4_readProduct, h.g.2.2.2]
  refine hx_bs ?_
  refine Hx.bd (hq S L i σ hS h hL) (fun σ2 v h2 => ?_)
  obtain ⟨r2, i', L', p1, p2, p3, p4⟩ := h2
  have il' := p1.il
  rcases p4 with ⟨rfl, p4⟩ | ⟨rfl, P, I, hP, p4, p5, p6⟩
  · refine Hx.ce (sm_eq (by omega) (by omega)) (fun _ => ?_) (fun c => absurd rfl c)
    exact Hx.ret ⟨r2, i', L', p1, p2, p3, Or.inl ⟨rfl, p4⟩⟩
  · refine Hx.ce (sm_eq (by omega) (by omega)) (fun c => absurd c (by omega)) (fun _ => ?_)
    exact cg_product_10 hL hq hS hd FU i' P I L' σ2 (by show n - i' < 4294967296; omega) p2 p1 p3 (fun w hw => ⟨(hP w hw).1, by have := (hP w hw).2; omega⟩) p4 p5 p6 r2
