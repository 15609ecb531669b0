/-! ===== pure: all that a book keeps to, and telling in it ===== -/
def Bkz (A : As) : Prop := Bkx A ∧ (∀ e ∈ A.1, Lok 0 e.2.1) ∧ (∀ e ∈ A.2.1, Lok e.2.1 e.2.2 ∧ 1 ≤ e.2.1 ∧ e.2.1 ≤ 4) ∧ Cn A.1 A.2.1
theorem Bkz.q {A : As} (h : Bkz A) : Bq A.1 A.2.1 := ⟨⟨h.1.srt.1.unq, h.1.srt.2.unq⟩, h.1.1.1.2.2.2, h.1.2.2.1.2, h.1.2.2.2.1, h.2.1, h.2.2.1⟩
theorem Bkz.bti {A : As} (h : Bkz A) : Bti A A := ⟨⟨fun _ => Iff.rfl, fun _ => Iff.rfl⟩, rfl, h.1.srt.1.unq, h.1.srt.2.unq⟩
theorem Rch.mem {T : List Th} {l : List It} {e : Th} (h : Rch T l e) : e ∈ T := by
  obtain ⟨n, h⟩ := h
  induction n generalizing l with
  | zero => exact h.1
  | succ n ih =>
    obtain ⟨e', _, h2⟩ := h
    exact ih h2
theorem rngO_some {T : List Th} (hac : Acy T) {t : Th} (ht : t ∈ T) : ∀ (n : Nat) (l : List It), Rch T l t → (T.filter fun x => @decide (Rch T l x) (Classical.propDecidable _)).length ≤ n → ∃ rg, rngO T n l t = some rg := by
  intro n
  induction n with
  | zero =>
    intro l hr hn
    exfalso
    have hm : t ∈ T.filter fun x => @decide (Rch T l x) (Classical.propDecidable _) := List.mem_filter.mpr ⟨ht, dec_t.mpr hr⟩
    have := List.length_pos_of_mem hm
    omega
  | succ n ih =>
    intro l hr hn
    have e : rngO T (n + 1) l t = (pick T l t).bind fun x => pif (x = t) (some []) ((rngO T n x.2.2 t).map (sgw x :: ·)) := rfl
    rw [e]
    cases hp : pick T l t with
    | none => exact absurd hp (pick_rch.mpr hr)
    | some x =>
      obtain ⟨hx, hu, hc⟩ := pick_some hp
      show ∃ rg, pif (x = t) (some []) ((rngO T n x.2.2 t).map (sgw x :: ·)) = some rg
      by_cases c : x = t
      · rw [pif_p c]; exact ⟨_, rfl⟩
      · rw [pif_n c]
        have hA : Adj T l x := ⟨hx, hu⟩
        have hlt : (T.filter fun y => @decide (Rch T x.2.2 y) (Classical.propDecidable _)).length < (T.filter fun y => @decide (Rch T l y) (Classical.propDecidable _)).length :=
          flt_lt (fun y _ hy => dec_t.mpr (Rch.cons hA (dec_t.mp hy))) ⟨x, hx, dec_t.mpr (Rch.one hA), dec_f.mpr (hac x hx)⟩
        obtain ⟨rg, hrg⟩ := ih x.2.2 (hc.resolve_left c) (by omega)
        rw [hrg]
        exact ⟨_, rfl⟩
theorem Bkz.rng {A : As} (h : Bkz A) (form w : Nat) (l : List It) : Rng A form w l := by
  intro e _ hr
  refine rngO_some h.q.2.1 hr.mem 30 l hr ?_
  have h1 := flt_le (p := fun x => @decide (Rch (Ths A.1 A.2.1) l x) (Classical.propDecidable _)) (Ths A.1 A.2.1)
  rw [Ths_len] at h1
  have := h.1.2.2.1
  omega
theorem plc_ex (w : Nat) : ∀ (W : List Nat), ∃ p, Plc W w p
  | [] => ⟨0, Nat.le_refl _, fun i u hi => absurd hi (Nat.not_lt_zero _), fun u hu => (by cases hu)⟩
  | u :: W => by
    by_cases c : wkey u < wkey w
    · obtain ⟨p, h1, h2, h3⟩ := plc_ex w W
      refine ⟨p + 1, by rw [List.length_cons]; omega, fun i v hi hv => ?_, fun v hv => h3 v hv⟩
      cases i with
      | zero => cases hv; exact c
      | succ i => exact h2 i v (by omega) hv
    · exact ⟨0, Nat.zero_le _, fun i v hi => absurd hi (Nat.not_lt_zero _), fun v hv => by cases hv; omega⟩
theorem plL_ln {α : Type} {l : List α} {p u : Nat} {x : α} (hp : p ≤ l.length) (hu : u ≤ 1) : (plL l p u x).length ≤ l.length + u ∨ (u = 0 ∧ p = l.length) := by
  unfold plL
  rw [List.length_append, List.length_cons, List.length_take, List.length_drop]
  omega
/-- where a word comes, it stands, or it is new -/
theorem plc_new {W : List Nat} {w p : Nat} (hs : Srt W) (h : Plc W w p) (hne : W[p]? ≠ some w) : w ∉ W := by
  intro hm
  obtain ⟨i, hi⟩ := List.getElem?_of_mem hm
  rcases Nat.lt_trichotomy i p with q | q | q
  · have := h.2.1 i w q hi
    omega
  · subst q
    exact hne hi
  · have hl := (List.getElem?_eq_some_iff.mp hi).1
    obtain ⟨u, hu⟩ := get_some (l := W) (i := p) (by omega)
    have h1 := h.2.2 u hu
    have h2 := hs.lt hu hi q
    omega
theorem isN_len {α : Type} {f : α → Nat} {l : List α} {w p M : Nat} {x : α} (hs : Srt (l.map f)) (hp : Plc (l.map f) w p) (h20 : l.length ≤ M) (hroom : fix (l.map f) w = none → l.length < M) : l.length + isN f l p w ≤ M ∧ (plL l p (isN f l p w) x).length ≤ M := by
  have hpl : p ≤ l.length := by have := hp.1; rw [List.length_map] at this; exact this
  by_cases c : (l.map f)[p]? ≠ some w
  · have e : isN f l p w = 1 := b01_p c
    have hr := hroom (fix_of.mpr (plc_new hs hp c))
    rw [e]
    rcases plL_ln (x := x) hpl (Nat.le_refl 1) with q | q <;> omega
  · have e : isN f l p w = 0 := b01_n c
    have c := Classical.not_not.mp c
    have hlt := (List.getElem?_eq_some_iff.mp c).1
    rw [List.length_map] at hlt
    rw [e]
    rcases plL_ln (x := x) hpl (Nat.zero_le 1) with q | q <;> omega
theorem okI_of {ns : List NE} {fs : List FE} {l : List It} (h : unk ns fs l = none) : ∀ it ∈ l, OkI fs it := fun it hit h33 h0 => ik_fun (unk_none.mp h it hit) h33 h0
theorem Bkz.mk {ns : List NE} {fs : List FE} {rows : List (List Qv)} (hq : Bq ns fs) (s1 : Srt (ns.map (·.1))) (s2 : Srt (fs.map (·.1))) (w1 : ∀ v ∈ ns.map (·.1), Wok v) (w2 : ∀ v ∈ fs.map (·.1), Wok v) (kn : ∀ e ∈ fs, known e.1 = 0) (l1 : ns.length ≤ 20) (hc : Cn ns fs) : Bkz (ns, fs, rows) := by
  obtain ⟨⟨u1, u2⟩, hac, hfl, hun, hns, hfs⟩ := hq
  refine ⟨⟨⟨⟨⟨u1.nd, u2.nd⟩, kn, Ths_srt.mpr ⟨s1, s2⟩, hac⟩, fun e he => (w1 _ (List.mem_map_of_mem he)).1, fun e he => (w2 _ (List.mem_map_of_mem he)).1, fun e he => okI_of (hun (1, e.1, e.2.2) (Ths_f he))⟩, ⟨fun e he => w1 _ (List.mem_map_of_mem he), fun e he => w2 _ (List.mem_map_of_mem he)⟩, ⟨l1, hfl⟩, hun, fun e he => ⟨okI_of (hun (0, e.1, e.2.1) (Ths_n he)), (hns e he).2.1⟩⟩, hns, hfs, hc⟩
theorem Bkz.tellN {A : As} {w wp : Nat} {l : List It} {r : Rs} (h : Bkz A) (hw : Wok w) (hl : Lok 0 l) (hrf : rfs A.1 A.2.1 (Ths A.1 A.2.1) 1 w wp 0 l = none) (hr : wrk (nvl A.1) (fbd A.2.1) 1000000 [] l [] 0 [] = some r) (h0 : r.1 = 0) : ∃ ns1 res, RunN A w l r.2.2.1 ns1 res ∧ ∀ ns', res = .inr ns' → Bkz (ns', A.2.1, A.2.2) := by
  obtain ⟨p, hp⟩ := plc_ex w (A.1.map (·.1))
  obtain ⟨⟨t1, _⟩, t2, _, t4, t5, t6⟩ := tell_N (q := r.2.2.1) h.1 h.bti hw hrf hp
  have hq0 := h.q
  obtain ⟨k1, k2⟩ := h.1.wk
  have hlen := isN_len (x := (w, l, r.2.2.1)) (f := fun (x : NE) => x.1) h.1.srt.1 hp h.1.2.2.1.1 t4
  generalize hns1 : plL A.1 p (isN (·.1) A.1 p w) (w, l, r.2.2.1) = ns1 at *
  have hq : Bq ns1 A.2.1 := by
    refine ⟨⟨t1.unq, hq0.1.2⟩, t2, hq0.2.2.1, t6, fun e he => ?_, hq0.2.2.2.2.2⟩
    rcases (t5 e).mp he with rfl | ⟨g, _⟩
    · exact hl
    · exact h.2.1 e g
  have hwm : (w, l, r.2.2.1) ∈ ns1 := (t5 _).mpr (Or.inl rfl)
  obtain ⟨j, hj⟩ : ∃ j, fix (ns1.map (·.1)) w = some j := by
    cases hf : fix (ns1.map (·.1)) w with
    | none => exact absurd (List.mem_map_of_mem (f := fun (x : NE) => x.1) hwm) (fix_of.mp hf)
    | some j => exact ⟨j, rfl⟩
  have hTj : (Ths ns1 A.2.1)[j]? = some (0, w, l) := by
    have hg := fix_get hj
    rw [List.getElem?_map] at hg
    cases he : ns1[j]? with
    | none => rw [he] at hg; cases hg
    | some e =>
      rw [he] at hg
      have e1 : e.1 = w := Option.some.inj hg
      rcases (t5 e).mp (List.mem_of_getElem? he) with rfl | ⟨_, g⟩
      · exact Ths_gt he
      · exact absurd e1 g
  obtain ⟨res, hres⟩ := rnw_some hq 20 ns1 (usrL ns1 A.2.1 j) (Nat.le_trans (usrL_len _ _ _) hlen.2) rfl (fun i hi => usrL_lt hi)
  refine ⟨ns1, res, ⟨p, hns1.symm, hp, hlen.2, hlen.1, ⟨hq.1.1.nd, hq.1.2.nd⟩, fun e he => ⟨okI_of (t6 (0, e.1, e.2.1) (Ths_n he)), (hq.2.2.2.2.1 e he).2.1⟩, j, hj, hres⟩, fun ns' hn => ?_⟩
  subst hn
  have hsm := rnw_same _ _ _ _ hres
  obtain ⟨e1, e2⟩ := Ths_sm (fs := A.2.1) hsm
  have hnv : ∀ w', w' ≠ w → nvl ns1 w' = nvl A.1 w' := by
    intro w' hne
    apply Option.ext
    intro y
    have b1 := fbm (f := fun (x : NE) => x.1) (g := fun (x : NE) => x.2.2) (w := w') (y := y) hq.1.1
    have b2 := fbm (f := fun (x : NE) => x.1) (g := fun (x : NE) => x.2.2) (w := w') (y := y) hq0.1.1
    refine b1.trans (Iff.trans ?_ b2.symm)
    constructor
    · rintro ⟨e, g1, g2, g3⟩
      rcases (t5 e).mp g1 with rfl | ⟨g, _⟩
      · exact absurd g2.symm hne
      · exact ⟨e, g, g2, g3⟩
    · rintro ⟨e, g1, g2, g3⟩
      exact ⟨e, (t5 e).mpr (Or.inr ⟨g1, fun z => hne (g2.symm.trans z)⟩), g2, g3⟩
  have hoff : ∀ l', ¬ Rch (Ths ns1 A.2.1) l' (0, w, l) → wrk (nvl ns1) (fbd A.2.1) 1000000 [] l' [] 0 [] = wrk (nvl A.1) (fbd A.2.1) 1000000 [] l' [] 0 [] := fun l' hl' =>
    wrk_off (T := Ths ns1 A.2.1) (t := (0, w, l)) (fun w l' hb => fbd_T hb) (List.mem_of_getElem? hTj) (fun w' hw' => hnv w' (hw' rfl)) (fun _ _ => rfl) hl' 1000000
  have hcn : Cn ns' A.2.1 := rnw_cns hq 20 ns1 ns' _ (usrL_nd _ _ _) rfl (fun i e hi hni => by
    obtain ⟨g1, g2⟩ := usrL_c hTj hi hni
    refine ⟨?_, g2⟩
    unfold Cn1
    rw [hoff _ g1]
    rcases (t5 e).mp (List.mem_of_getElem? hi) with rfl | ⟨g, _⟩
    · exact ⟨r, hr, h0, rfl⟩
    · exact h.2.2.2 e g) hres
  refine Bkz.mk (hq.same hsm) (by rw [e2]; exact t1) h.1.srt.2 (by
    rw [e2]
    intro v hv
    obtain ⟨e, g1, rfl⟩ := List.mem_map.mp hv
    rcases (t5 e).mp g1 with rfl | ⟨g, _⟩
    · exact hw
    · exact h.1.2.1.1 e g) k2 h.1.1.1.2.1 ?_ hcn
  have := congrArg List.length hsm
  rw [List.length_map, List.length_map] at this
  omega
theorem Bkz.tellF {A : As} {w wp np : Nat} {l : List It} (h : Bkz A) (hw : Wok w) (hnp : 1 ≤ np ∧ np ≤ 4) (hl : Lok np l) (hrf : rfs A.1 A.2.1 (Ths A.1 A.2.1) 2 w wp np l = none) : ∃ fs1 res, RunF A w np l fs1 res ∧ ∀ ns', res = .inr ns' → Bkz (ns', fs1, A.2.2) := by
  obtain ⟨p, hp⟩ := plc_ex w (A.2.1.map (·.1))
  obtain ⟨⟨t1, _⟩, t2, _, t4, t5, t6⟩ := tell_F h.1 h.bti hw hrf hp
  have hq0 := h.q
  obtain ⟨k1, k2⟩ := h.1.wk
  have kn0 : known w = 0 := by
    rcases Nat.eq_zero_or_pos (known w) with z | z
    · exact z
    · exact absurd (Or.inl z) ((rfs_ok hrf).2 (by omega)).1
  have hlen := isN_len (x := (w, np, l)) (f := fun (x : FE) => x.1) h.1.srt.2 hp h.1.2.2.1.2 t4
  generalize hfs1 : plL A.2.1 p (isN (·.1) A.2.1 p w) (w, np, l) = fs1 at *
  have hq : Bq A.1 fs1 := by
    refine ⟨⟨hq0.1.1, t1.unq⟩, t2, hlen.2, t6, hq0.2.2.2.2.1, fun e he => ?_⟩
    rcases (t5 e).mp he with rfl | ⟨g, _⟩
    · exact ⟨hl, hnp⟩
    · exact h.2.2.1 e g
  have hkn : ∀ e ∈ fs1, known e.1 = 0 := fun e he => by
    rcases (t5 e).mp he with rfl | ⟨g, _⟩
    · exact kn0
    · exact h.1.1.1.2.1 e g
  have hwm : (w, np, l) ∈ fs1 := (t5 _).mpr (Or.inl rfl)
  obtain ⟨j, hj⟩ : ∃ j, fix (fs1.map (·.1)) w = some j := by
    cases hf : fix (fs1.map (·.1)) w with
    | none => exact absurd (List.mem_map_of_mem (f := fun (x : FE) => x.1) hwm) (fix_of.mp hf)
    | some j => exact ⟨j, rfl⟩
  have hTj : (Ths A.1 fs1)[A.1.length + j]? = some (1, w, l) := by
    have hg := fix_get hj
    rw [List.getElem?_map] at hg
    cases he : fs1[j]? with
    | none => rw [he] at hg; cases hg
    | some e =>
      rw [he] at hg
      have e1 : e.1 = w := Option.some.inj hg
      rcases (t5 e).mp (List.mem_of_getElem? he) with rfl | ⟨_, g⟩
      · unfold Ths
        rw [List.getElem?_append_right (by rw [List.length_map]; omega), List.length_map, Nat.add_sub_cancel_left, List.getElem?_map, he]
        rfl
      · exact absurd e1 g
  have hjO : ndO A.1 fs1 2 w = some (A.1.length + j) := by
    unfold ndO
    rw [if_pos rfl, hj]
    rfl
  obtain ⟨res, hres⟩ := rnw_some hq 20 A.1 (usrL A.1 fs1 (A.1.length + j)) (Nat.le_trans (usrL_len _ _ _) h.1.2.2.1.1) rfl (fun i hi => usrL_lt hi)
  refine ⟨fs1, res, ⟨by omega, p, hfs1.symm, hp, hlen.1, ⟨hq.1.1.nd, hq.1.2.nd⟩, hkn, fun e he => okI_of (t6 (1, e.1, e.2.2) (Ths_f he)), fun e he => ⟨okI_of (t6 (0, e.1, e.2.1) (Ths_n he)), (hq.2.2.2.2.1 e he).2.1⟩, _, hjO, hres⟩, fun ns' hn => ?_⟩
  subst hn
  have hsm := rnw_same _ _ _ _ hres
  obtain ⟨e1, e2⟩ := Ths_sm (fs := fs1) hsm
  have hfb : ∀ w', w' ≠ w → fbd fs1 w' = fbd A.2.1 w' := by
    intro w' hne
    apply Option.ext
    intro y
    have b1 := fbm (f := fun (x : FE) => x.1) (g := fun (x : FE) => x.2.2) (w := w') (y := y) hq.1.2
    have b2 := fbm (f := fun (x : FE) => x.1) (g := fun (x : FE) => x.2.2) (w := w') (y := y) hq0.1.2
    refine b1.trans (Iff.trans ?_ b2.symm)
    constructor
    · rintro ⟨e, g1, g2, g3⟩
      rcases (t5 e).mp g1 with rfl | ⟨g, _⟩
      · exact absurd g2.symm hne
      · exact ⟨e, g, g2, g3⟩
    · rintro ⟨e, g1, g2, g3⟩
      exact ⟨e, (t5 e).mpr (Or.inr ⟨g1, fun z => hne (g2.symm.trans z)⟩), g2, g3⟩
  have hoff : ∀ l', ¬ Rch (Ths A.1 fs1) l' (1, w, l) → wrk (nvl A.1) (fbd fs1) 1000000 [] l' [] 0 [] = wrk (nvl A.1) (fbd A.2.1) 1000000 [] l' [] 0 [] := fun l' hl' =>
    wrk_off (T := Ths A.1 fs1) (t := (1, w, l)) (fun w l' hb => fbd_T hb) (List.mem_of_getElem? hTj) (fun _ _ => rfl) (fun w' hw' => hfb w' (hw' rfl)) hl' 1000000
  have hcn : Cn ns' fs1 := rnw_cns hq 20 A.1 ns' _ (usrL_nd _ _ _) rfl (fun i e hi hni => by
    obtain ⟨g1, g2⟩ := usrL_c hTj hi hni
    refine ⟨?_, g2⟩
    unfold Cn1
    rw [hoff _ g1]
    exact h.2.2.2 e (List.mem_of_getElem? hi)) hres
  refine Bkz.mk (hq.same hsm) (by rw [e2]; exact h.1.srt.1) t1 (by rw [e2]; exact k1) (fun v hv => ?_) hkn ?_ hcn
  · obtain ⟨e, g1, rfl⟩ := List.mem_map.mp hv
    rcases (t5 e).mp g1 with rfl | ⟨g, _⟩
    · exact hw
    · exact h.1.2.1.2 e g
  · have := congrArg List.length hsm
    rw [List.length_map, List.length_map] at this
    have := h.1.2.2.1.1
    omega
