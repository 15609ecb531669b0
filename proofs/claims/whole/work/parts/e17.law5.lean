/-! ===== the law: two orders of one book ===== -/
theorem pm_perm {α : Type} {f : α → Nat} : ∀ {a b : List α}, (∀ e, e ∈ a ↔ e ∈ b) → Unq (a.map f) → Unq (b.map f) → a.Perm b := by
  intro a
  induction a with
  | nil =>
    intro b h _ _
    cases b with
    | nil => exact List.Perm.nil
    | cons y b => exact absurd ((h y).mpr List.mem_cons_self) (by intro z; cases z)
  | cons x a ih =>
    intro b h ha hb
    obtain ⟨s, t, rfl⟩ := List.append_of_mem ((h x).mp List.mem_cons_self)
    have na : (x :: a).map f |>.Nodup := ha.nd
    have nb : (s ++ x :: t).map f |>.Nodup := hb.nd
    rw [List.map_cons, List.nodup_cons] at na
    have nb2 : ((s ++ t).map f).Nodup ∧ f x ∉ (s ++ t).map f := by
      rw [List.map_append, List.map_cons, List.nodup_append] at nb
      obtain ⟨n1, n2, n3⟩ := nb
      rw [List.nodup_cons] at n2
      rw [List.map_append]
      refine ⟨List.nodup_append.mpr ⟨n1, n2.2, fun u hu v hv => n3 u hu v (List.mem_cons_of_mem _ hv)⟩, fun z => ?_⟩
      rcases List.mem_append.mp z with z | z
      · exact n3 (f x) z (f x) List.mem_cons_self rfl
      · exact n2.1 z
    refine (List.Perm.cons x (ih (b := s ++ t) (fun e => ?_) (Unq.of na.2) (Unq.of nb2.1))).trans List.perm_middle.symm
    have he := h e
    constructor
    · intro z
      have := he.mp (List.mem_cons_of_mem _ z)
      rcases List.mem_append.mp this with q | q
      · exact List.mem_append.mpr (Or.inl q)
      · rcases List.mem_cons.mp q with q | q
        · subst q; exact absurd (List.mem_map_of_mem (f := f) z) na.1
        · exact List.mem_append.mpr (Or.inr q)
    · intro z
      have hz : e ∈ s ++ x :: t := by
        rcases List.mem_append.mp z with q | q
        · exact List.mem_append.mpr (Or.inl q)
        · exact List.mem_append.mpr (Or.inr (List.mem_cons_of_mem _ q))
      rcases List.mem_cons.mp (he.mpr hz) with q | q
      · subst q; exact absurd (List.mem_map_of_mem (f := f) z) nb2.2
      · exact q
theorem Bti.p1 {A B : As} (h : Bti A B) (hA : Bkz A) : B.1.Perm A.1 := pm_perm h.1.1 h.2.2.1 hA.1.srt.1.unq
theorem Bti.p2 {A B : As} (h : Bti A B) (hA : Bkz A) : B.2.1.Perm A.2.1 := pm_perm h.1.2 h.2.2.2 hA.1.srt.2.unq
theorem dsum_perm {a b : List NE} (h : a.Perm b) : dsum a = dsum b := by
  induction h with
  | nil => rfl
  | cons x _ ih => show _ + _ = _ + _; rw [ih]
  | swap x y l => show _ + (_ + _) = _ + (_ + _); omega
  | trans _ _ i1 i2 => exact i1.trans i2
theorem mdv_perm {a b : List NE} (h : a.Perm b) : mdv a = mdv b := by
  unfold mdv
  rw [dsum_perm h, h.length_eq]
theorem rnk_perm {a b : List Nat} (h : a.Perm b) (w : Nat) : rnk a w = rnk b w := (h.filter _).length_eq
theorem usn_perm {T : List Th} {a b : List NE} (h : a.Perm b) (e : Th) : usn T a e = usn T b e := (h.filter _).length_eq
theorem rnk_srt : ∀ {W : List Nat} {i w : Nat}, Srt W → W[i]? = some w → rnk W w = i := by
  intro W
  induction W with
  | nil => intro i w _ h; cases h
  | cons u W ih =>
    intro i w hs h
    obtain ⟨h1, h2⟩ := List.pairwise_cons.mp hs
    unfold rnk
    rw [List.filter_cons]
    cases i with
    | zero =>
      cases h
      have : ¬ wkey u < wkey u := by omega
      rw [if_neg (by simp)]
      refine List.length_eq_zero_iff.mpr (List.filter_eq_nil_iff.mpr fun v hv => ?_)
      have := h1 v hv
      simp only [decide_eq_true_eq]
      omega
    | succ i =>
      have hw : W[i]? = some w := h
      have := h1 w (List.mem_of_getElem? hw)
      rw [if_pos (by simpa using this), List.length_cons]
      exact congrArg (· + 1) (ih h2 hw)
theorem fnd_pm {α β : Type} {f : α → Nat} {g : α → β} {a b : List α} (h : ∀ e, e ∈ a ↔ e ∈ b) (ha : Unq (a.map f)) (hb : Unq (b.map f)) (hw : ∀ e ∈ b, f e < 2147483648) (v : Int32) : fnd f g a v = fnd f g b v := by
  have w1 : ∀ x ∈ a.map f, x < 2147483648 := by
    intro x hx
    obtain ⟨e, he, rfl⟩ := List.mem_map.mp hx
    exact hw e ((h e).mp he)
  have w2 : ∀ x ∈ b.map f, x < 2147483648 := by
    intro x hx
    obtain ⟨e, he, rfl⟩ := List.mem_map.mp hx
    exact hw e he
  refine int_all (P := fun v => fnd f g a v = fnd f g b v) (v := v) (fun z hz => ?_)
  unfold fnd
  by_cases c : z < 0
  · have hz0 : iz z < nI 0 := by
      rw [show nI 0 = iz 0 from rfl, iz_lt hz.1 hz.2 (by decide) (by decide)]
      exact c
    rw [fixI_neg w1 hz0, fixI_neg w2 hz0]
    rfl
  · rw [show iz z = nI z.toNat by rw [show z = ((z.toNat : Nat) : Int) by omega]; rfl]
    rw [fixI_nat w1 (by omega), fixI_nat w2 (by omega)]
    exact fbm_pm h ha hb _
theorem Bkz.w1 {A : As} (h : Bkz A) : ∀ e ∈ A.1, e.1 < 2147483648 := fun e he => by have := (h.1.1.2.1 e he).2; omega
theorem Bkz.w2 {A : As} (h : Bkz A) : ∀ e ∈ A.2.1, e.1 < 2147483648 := fun e he => by have := (h.1.1.2.2.1 e he).2; omega
theorem Bti.f1 {β : Type} {A B : As} {g : NE → β} (h : Bti A B) (hA : Bkz A) (v : Int32) : fnd (·.1) g B.1 v = fnd (·.1) g A.1 v := fnd_pm h.1.1 h.2.2.1 hA.1.srt.1.unq hA.w1 v
theorem Bti.f2 {β : Type} {A B : As} {g : FE → β} (h : Bti A B) (hA : Bkz A) (v : Int32) : fnd (·.1) g B.2.1 v = fnd (·.1) g A.2.1 v := fnd_pm h.1.2 h.2.2.2 hA.1.srt.2.unq hA.w2 v
theorem bti_thq {A B : As} (h : Bti A B) (hA : Bkz A) (f : Nat) (v : Int32) : thq B f v = thq A f v := by
  unfold thq
  rw [h.f1 hA, h.f2 hA]
theorem b01_iff {p q : Prop} (h : p ↔ q) : b01 p = b01 q := by rw [propext h]
theorem bti_usq {A B : As} (h : Bti A B) (hA : Bkz A) (f : Nat) (v : Int32) (g : Nat) (w : Int32) : usq B f v g w = usq A f v g w := by
  unfold usq
  rw [bti_thq h hA, bti_thq h hA]
  cases thq A f v with
  | none => rfl
  | some e =>
    cases thq A g w with
    | none => rfl
    | some e' => exact b01_iff (Rch.congr h.T)
theorem bti_usQ {A B : As} (h : Bti A B) (hA : Bkz A) (f : Nat) (v : Int32) : usQ B f v = usQ A f v := by
  unfold usQ
  rw [bti_thq h hA]
  cases thq A f v with
  | none => rfl
  | some e =>
    show usn _ B.1 e = usn _ A.1 e
    rw [usn_perm (h.p1 hA)]
    unfold usn
    congr 1
    refine List.filter_congr fun x _ => ?_
    exact decide_eq_decide.mpr (Rch.congr h.T)
theorem ri_36 {σ : St} {m : Nat} {c : Rct} {s : Rst} (h : RI σ m c s) : s.2.2.2.2.2.2.2.1.1.length ≤ 20 ∧ ∀ e ∈ s.2.2.2.2.2.2.2.1.1, (dgx e.2.2.2.2).length ≤ 36 := by
  have hB := h.2.2.1.cur.B
  have h36 := dig30_36
  refine ⟨hB.1.2.1, fun e he => ?_⟩
  obtain ⟨k, hk⟩ := List.getElem?_of_mem he
  obtain ⟨_, _, _, vi, u1, u2⟩ := hB.2.1 k e hk
  have hq := u2.2.1
  exact dgx_len (by have := hq.2.2.2.2.2; omega)
theorem dsum_b : ∀ {ns : List NE}, (∀ e ∈ ns, (dgx e.2.2.2.2).length ≤ 36) → dsum ns ≤ 36 * ns.length
  | [], _ => Nat.le_refl _
  | e :: ns, h => by
    have := dsum_b (ns := ns) (fun e he => h e (List.mem_cons_of_mem _ he))
    have := h e List.mem_cons_self
    show _ + dsum ns ≤ 36 * (ns.length + 1)
    omega
section
variable {x b L i c9 w9 : Nat} {xs : Nat → Int32} {s s' : Kst} {c c' : Rct} {h h' : As × List As × List As} {σ σ' : St} {k23 : St → Nat → Nat → Nat → Nat → Int32 → Prop}
theorem br_2283 (hn : Nx x b L xs i k23) (hL : Lo x b L xs i s c h σ) : pL_law_2283 c9 w9 k23 σ b x (x + 98) (x + 143) (nI (6 * i)) := by
  obtain ⟨o, k⟩ := hL.ki
  obtain ⟨A, hA, hG, hT⟩ := hL.now
  refine lw_k hL ⟨σ, _, ki_meanDigits k hA, ?_⟩
  have hM : Mid x b L xs (i + 1) s.1.length s c (rst s h) σ := mid_cls hL.1 (cO.rf k.1.1) ⟨o, k⟩ (by omega) (by omega)
  refine lw_17 hM ?_
  obtain ⟨σ4, v, e4, hE, hv, c', hR, hB⟩ := ri_meanDigits hM.2.1
  refine ⟨σ4, v, e4, ?_⟩
  have hv : v = mdv h.1.1 := hv
  subst hv
  rw [mdv_perm (hT.p1 hG.1)]
  have h36 := ri_36 hM.2.1
  have h36 : h.1.1.length ≤ 20 ∧ ∀ e ∈ h.1.1, (dgx e.2.2.2.2).length ≤ 36 := h36
  have e : Op.cmpValue (FP.dcmp (mdv A.1) (mdv A.1)) .l = 0 := by
    rw [← mdv_perm (hT.p1 hG.1)]
    have hd := dsum_b h36.2
    unfold mdv
    by_cases q : h.1.1.length = 0
    · rw [if_pos q]; exact md_cmp0
    · rw [if_neg q]; exact md_cmp _ (by omega) (by omega) _ (by omega)
  dsimp only
  rw [if_pos e]
  exact nx_of (h' := h) hn hL (mid_ref hM hE hR) hB rfl rfl hL.2.1
theorem br_2324 (hn : Nx x b L xs i k23) (hL : Lo x b L xs i s c h σ) : pL_law_2324 c9 w9 k23 σ b x (x + 98) (x + 143) (nI (6 * i)) := by
  obtain ⟨o, k⟩ := hL.ki
  refine lw_k hL ⟨σ, _, ki_wholes k, ?_⟩
  have hM : Mid x b L xs (i + 1) s.1.length s c (rst s h) σ := mid_cls hL.1 (cO.rf k.1.1) ⟨o, k⟩ (by omega) (by omega)
  have h10 : s.2.2.2.2.1.length = 10 := k.2.2.1.2.1.1
  have hw := whl_b s.2.2.2.2.1
  obtain ⟨w1, w2⟩ := wh_cmp (whl s.2.2.2.2.1) (by omega)
  refine ⟨(), w1, lw_17 hM ?_⟩
  obtain ⟨σ4, v, e4, hE, hv, c', hR, hB⟩ := ri_wholes hM.2.1
  refine ⟨σ4, v, e4, ?_⟩
  have hv : v = whv s.2.2.2.2.1 := hv
  subst hv
  refine ⟨(), w1, ?_⟩
  unfold nm
  dsimp only
  have e : Op.cmpValue (FP.dcmp (FP.f2d (whv s.2.2.2.2.1)) (FP.f2d (whv s.2.2.2.2.1))) .l = 0 := w2
  rw [if_pos e]
  exact nx_of (h' := h) hn hL (mid_ref hM hE hR) hB rfl rfl hL.2.1
theorem br_1044 (hn : Nx x b L xs i k23) (hL : Lo x b L xs i s c h σ) : pL_law_1044 c9 w9 k23 σ b x (x + 98) (x + 143) (nI (6 * i)) := by
  obtain ⟨o, k⟩ := hL.ki
  obtain ⟨A, hA, hG, hT⟩ := hL.now
  have hb := hL.bds
  refine lw_a (j := 1) hL.1 hL.2.2.2.2 (by omega) ?_
  have e : fnd (·.1) (fun e : NE => e.2.2) h.1.1 (xs (6 * i + 1)) = fnd (·.1) (fun e : NE => e.2.2) A.1 (xs (6 * i + 1)) := hT.f1 hG.1 _
  unfold fL_takeName
  refine lw_w (t' := s.1.length) (hd := fun τ E => if E = "java/util/NoSuchElementException" then some (τ, 1) else none) hL.1 (ki_takeName k hA) (hd_x (fun τ => if_pos rfl)) hd_0 (by omega) (by omega) (fun σ2 hM hj => ?_)
  refine lw_a (j := 1) hM hL.2.2.2.2 (by omega) (lw_17 hM ?_)
  have hr := ri_takeName (v := xs (6 * i + 1)) (show c.1 < 12600 by omega) hM.2.1
  have ee : fnd (·.1) (fun e : NE => e.2.2) (rst s h).2.2.2.2.2.2.2.1.1 (xs (6 * i + 1)) = fnd (·.1) (fun e : NE => e.2.2) A.1 (xs (6 * i + 1)) := e
  rw [ee] at hr
  exact lw_r hM hj hr (fun _ => rfl) hd_9 (fun σ4 c' hM4 hB => nx_of (h' := h) hn hL hM4 hB (rst_if rfl rfl) (by split <;> rfl) (by split <;> exact hL.2.1))
theorem br_1113 (hn : Nx x b L xs i k23) (hL : Lo x b L xs i s c h σ) : pL_law_1113 c9 w9 k23 σ b x (x + 98) (x + 143) (nI (6 * i)) := by
  obtain ⟨o, k⟩ := hL.ki
  obtain ⟨A, hA, hG, hT⟩ := hL.now
  refine lw_a (j := 1) hL.1 hL.2.2.2.2 (by omega) ?_
  have e : fnd (·.1) (fun e : FE => e.2.1) h.1.2.1 (xs (6 * i + 1)) = fnd (·.1) (fun e : FE => e.2.1) A.2.1 (xs (6 * i + 1)) := hT.f2 hG.1 _
  unfold fL_parameters
  refine lw_w (t' := s.1.length) (hd := fun τ E => if E = "java/util/NoSuchElementException" then some (τ, 1) else none) hL.1 (ki_parameters k hA) (hd_x (fun τ => if_pos rfl)) hd_0 (by omega) (by omega) (fun σ2 hM hj => ?_)
  refine lw_a (j := 1) hM hL.2.2.2.2 (by omega) (lw_17 hM ?_)
  have hr := ri_parameters (v := xs (6 * i + 1)) hM.2.1
  have ee : fnd (·.1) (fun e : FE => e.2.1) (rst s h).2.2.2.2.2.2.2.1.2.1 (xs (6 * i + 1)) = fnd (·.1) (fun e : FE => e.2.1) A.2.1 (xs (6 * i + 1)) := e
  rw [ee] at hr
  exact lw_r hM hj hr (fun _ => rfl) hd_9 (fun σ4 c' hM4 hB => nx_of (h' := h) hn hL hM4 hB rfl rfl hL.2.1)
theorem br_988 (hn : Nx x b L xs i k23) (hL : Lo x b L xs i s c h σ) : pL_law_988 c9 w9 k23 σ b x (x + 98) (x + 143) (nI (6 * i)) := by
  obtain ⟨o, k⟩ := hL.ki
  obtain ⟨A, hA, hG, hT⟩ := hL.now
  refine lw_a (j := 1) hL.1 hL.2.2.2.2 (by omega) ?_
  have el : h.1.1.length = A.1.length := (hT.p1 hG.1).length_eq
  generalize hv : xs (6 * i + 1) = v
  revert hv
  refine int_all (P := fun v => xs (6 * i + 1) = v → exW (fL_nameAt σ x v (x + 143)) _) (v := v) (fun z hz hv => ?_)
  unfold fL_nameAt
  refine lw_w (t' := s.1.length) (hd := fun τ E => if E = "java/lang/IndexOutOfBoundsException" then some (τ, 1) else none) hL.1 (ki_nameAt hz k hA hG.1.1.2.2.1.1) (hd_x (fun τ => if_pos rfl)) hd_0 (by omega) (by omega) (fun σ2 hM hj => ?_)
  refine lw_a (j := 1) hM hL.2.2.2.2 (by omega) (lw_17 hM ?_)
  rw [hv]
  have hW : ∀ e ∈ (rst s h).2.2.2.2.2.2.2.1.1, wd e.1 := fun e he => hG.1.1.1.2.1 e ((hT.1.1 e).mp he)
  have hrk : ∀ w, rnk ((rst s h).2.2.2.2.2.2.2.1.1.map (·.1)) w = rnk (A.1.map (·.1)) w := fun w => rnk_perm ((hT.p1 hG.1).map _) w
  have hr := ri_nameAt (w := ((A.1[z.toNat]?).map (·.1)).getD 0) hz hW (fun hzz => ?_) hM.2.1
  · have el2 : (rst s h).2.2.2.2.2.2.2.1.1.length = A.1.length := el
    rw [el2] at hr
    refine lw_r hM hj hr (fun _ => ?_) hd_9 (fun σ4 c' hM4 hB => nx_of (h' := h) hn hL hM4 hB rfl rfl hL.2.1)
    unfold atI
    cases A.1[z.toNat]? <;> rfl
  · have hzz : 0 ≤ z ∧ z < h.1.1.length := hzz
    obtain ⟨e, he⟩ := get_some (l := A.1) (i := z.toNat) (by omega)
    have hW1 : (A.1.map (·.1))[z.toNat]? = some e.1 := by rw [List.getElem?_map, he]; rfl
    rw [he]
    refine ⟨fun e' he' q => ?_, e, (hT.1.1 e).mpr (List.mem_of_getElem? he), ?_⟩
    · rw [hrk] at q
      obtain ⟨j, hj'⟩ := List.getElem?_of_mem ((hT.1.1 e').mp he')
      have hj2 : (A.1.map (·.1))[j]? = some e'.1 := by rw [List.getElem?_map, hj']; rfl
      rw [rnk_srt hG.1.1.srt.1 hj2] at q
      have : j = z.toNat := by omega
      subst this
      rw [he] at hj'
      cases hj'
      rfl
    · rw [hrk, rnk_srt hG.1.1.srt.1 hW1]
      omega
theorem br_1169 (hn : Nx x b L xs i k23) (hL : Lo x b L xs i s c h σ) : pL_law_1169 c9 w9 k23 σ b x (x + 98) (x + 143) (nI (6 * i)) := by
  obtain ⟨o, k⟩ := hL.ki
  obtain ⟨A, hA, hG, hT⟩ := hL.now
  obtain ⟨f, hf, hv⟩ := fl_of (xs (6 * i + 2))
  obtain ⟨g, hg, hw⟩ := fl_of (xs (6 * i + 4))
  refine lw_a (j := 1) hL.1 hL.2.2.2.2 (by omega) (lw_a (j := 2) hL.1 hL.2.2.2.2 (by omega) (fl_if hv (P := fun v => pL_law_1190 c9 w9 k23 σ b x (x + 98) (x + 143) (nI (6 * i)) x (xs (6 * i + 1)) v) ?_))
  refine lw_a (j := 3) hL.1 hL.2.2.2.2 (by omega) (lw_a (j := 4) hL.1 hL.2.2.2.2 (by omega) (fl_if hw (P := fun v => pL_law_1210 c9 w9 k23 σ b x (x + 98) (x + 143) (nI (6 * i)) x (xs (6 * i + 1)) (nI f) (xs (6 * i + 3)) v) ?_))
  refine lw_k hL (lw_c (t' := s.1.length) hL.1 (ki_uses (v := xs (6 * i + 1)) (w := xs (6 * i + 3)) hf hg k hA) (by omega) (by omega) (fun σ1 hM => ?_))
  refine lw_a (j := 1) hM hL.2.2.2.2 (by omega) (lw_a (j := 2) hM hL.2.2.2.2 (by omega) (fl_if hv (P := fun v => pL_law_1234 c9 w9 k23 σ1 b x (x + 98) (x + 143) (nI (6 * i)) _ (x + 98) (xs (6 * i + 1)) v) ?_))
  refine lw_a (j := 3) hM hL.2.2.2.2 (by omega) (lw_a (j := 4) hM hL.2.2.2.2 (by omega) (fl_if hw (P := fun v => pL_law_1254 c9 w9 k23 σ1 b x (x + 98) (x + 143) (nI (6 * i)) _ (x + 98) (xs (6 * i + 1)) (nI f) (xs (6 * i + 3)) v) ?_))
  have hr := ri_uses (v := xs (6 * i + 1)) (w := xs (6 * i + 3)) hf hg hM.2.1
  have ee : usq (rst s h).2.2.2.2.2.2.2.1 f (xs (6 * i + 1)) g (xs (6 * i + 3)) = usq A f (xs (6 * i + 1)) g (xs (6 * i + 3)) := bti_usq hT hG.1 _ _ _ _
  rw [ee] at hr
  exact lw_17 hM (lw_d hM hr (fun σ4 c' hM4 hB => nx_of (h' := h) hn hL hM4 hB rfl rfl hL.2.1))
theorem br_1262 (hn : Nx x b L xs i k23) (hL : Lo x b L xs i s c h σ) : pL_law_1262 c9 w9 k23 σ b x (x + 98) (x + 143) (nI (6 * i)) := by
  obtain ⟨o, k⟩ := hL.ki
  obtain ⟨A, hA, hG, hT⟩ := hL.now
  obtain ⟨f, hf, hv⟩ := fl_of (xs (6 * i + 2))
  refine lw_a (j := 1) hL.1 hL.2.2.2.2 (by omega) (lw_a (j := 2) hL.1 hL.2.2.2.2 (by omega) (fl_if hv (P := fun v => pL_law_1283 c9 w9 k23 σ b x (x + 98) (x + 143) (nI (6 * i)) x (xs (6 * i + 1)) v) ?_))
  refine lw_k hL (lw_c (t' := s.1.length) hL.1 (ki_users (v := xs (6 * i + 1)) hf k hA) (by omega) (by omega) (fun σ1 hM => ?_))
  refine lw_a (j := 1) hM hL.2.2.2.2 (by omega) (lw_a (j := 2) hM hL.2.2.2.2 (by omega) (fl_if hv (P := fun v => pL_law_1307 c9 w9 k23 σ1 b x (x + 98) (x + 143) (nI (6 * i)) _ (x + 98) (xs (6 * i + 1)) v) ?_))
  have hr := ri_users (v := xs (6 * i + 1)) hf hM.2.1
  have ee : usQ (rst s h).2.2.2.2.2.2.2.1 f (xs (6 * i + 1)) = usQ A f (xs (6 * i + 1)) := bti_usQ hT hG.1 _ _
  rw [ee] at hr
  exact lw_17 hM (lw_d hM hr (fun σ4 c' hM4 hB => nx_of (h' := h) hn hL hM4 hB rfl rfl hL.2.1))
end
