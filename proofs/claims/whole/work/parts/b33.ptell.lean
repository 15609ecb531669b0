/-! ===== pure: the two orders of one book; a name or a function is told ===== -/
theorem fbm {α β : Type} {f : α → Nat} {g : α → β} {l : List α} (hu : Unq (l.map f)) {w : Nat} {y : β} : ((fix (l.map f) w).bind fun k => l[k]?.map g) = some y ↔ ∃ e ∈ l, f e = w ∧ g e = y := by
  constructor
  · intro h
    cases hk : fix (l.map f) w with
    | none => rw [hk] at h; cases h
    | some k =>
      rw [hk] at h
      have hg := fix_get hk
      rw [List.getElem?_map] at hg
      cases he : l[k]? with
      | none => rw [he] at hg; cases hg
      | some e =>
        rw [he] at hg
        have h : l[k]?.map g = some y := h
        rw [he] at h
        exact ⟨e, List.mem_of_getElem? he, Option.some.inj hg, Option.some.inj h⟩
  · rintro ⟨e, he, h1, h2⟩
    obtain ⟨i, hi⟩ := List.getElem?_of_mem he
    have hw : (l.map f)[i]? = some w := by rw [List.getElem?_map, hi, ← h1]; rfl
    cases hk : fix (l.map f) w with
    | none => exact absurd (List.mem_of_getElem? hw) (fix_of.mp hk)
    | some k =>
      have : k = i := hu k i w (fix_get hk) hw
      subst this
      show l[k]?.map g = some y
      rw [hi, ← h2]
      rfl
theorem fbm_pm {α β : Type} {f : α → Nat} {g : α → β} {a b : List α} (h : ∀ e, e ∈ a ↔ e ∈ b) (ha : Unq (a.map f)) (hb : Unq (b.map f)) (w : Nat) : ((fix (a.map f) w).bind fun k => a[k]?.map g) = ((fix (b.map f) w).bind fun k => b[k]?.map g) := by
  apply Option.ext
  intro y
  rw [fbm ha, fbm hb]
  constructor
  · rintro ⟨e, h1, h2⟩
    exact ⟨e, (h e).mp h1, h2⟩
  · rintro ⟨e, h1, h2⟩
    exact ⟨e, (h e).mpr h1, h2⟩
theorem mem_len {α : Type} {f : α → Nat} : ∀ {a b : List α}, (∀ e, e ∈ a ↔ e ∈ b) → Unq (a.map f) → Unq (b.map f) → a.length = b.length := by
  intro a
  induction a with
  | nil =>
    intro b h _ _
    cases b with
    | nil => rfl
    | cons y b => exact absurd ((h y).mpr List.mem_cons_self) (by intro z; cases z)
  | cons x a ih =>
    intro b h ha hb
    obtain ⟨s, t, rfl⟩ := List.append_of_mem ((h x).mp List.mem_cons_self)
    have na : (x :: a).map f |>.Nodup := ha.nd
    have nb : (s ++ x :: t).map f |>.Nodup := hb.nd
    rw [List.map_cons, List.nodup_cons] at na
    have nb2 : ((s ++ t).map f).Nodup ∧ f x ∉ (s ++ t).map f := by
      rw [List.map_append, List.map_cons, List.nodup_append] at nb
      obtain ⟨n1, n2, n3⟩ := nb
      rw [List.nodup_cons] at n2
      rw [List.map_append]
      refine ⟨List.nodup_append.mpr ⟨n1, n2.2, fun u hu v hv => n3 u hu v (List.mem_cons_of_mem _ hv)⟩, fun z => ?_⟩
      rcases List.mem_append.mp z with z | z
      · exact n3 (f x) z (f x) List.mem_cons_self rfl
      · exact n2.1 z
    have := ih (b := s ++ t) (fun e => ?_) (Unq.of na.2) (Unq.of nb2.1)
    · rw [List.length_cons, this, List.length_append, List.length_append, List.length_cons]
      omega
    · constructor
      · intro he
        have := (h e).mp (List.mem_cons_of_mem _ he)
        rcases List.mem_append.mp this with q | q
        · exact List.mem_append.mpr (Or.inl q)
        · rcases List.mem_cons.mp q with rfl | q
          · exact absurd (List.mem_map_of_mem he) na.1
          · exact List.mem_append.mpr (Or.inr q)
      · intro he
        have h2 : e ∈ s ++ x :: t := by
          rcases List.mem_append.mp he with q | q
          · exact List.mem_append.mpr (Or.inl q)
          · exact List.mem_append.mpr (Or.inr (List.mem_cons_of_mem _ q))
        rcases List.mem_cons.mp ((h e).mpr h2) with rfl | q
        · exact absurd (List.mem_map_of_mem he) nb2.2
        · exact q
/-- one state in two orders -/
def Bti (A B : As) : Prop := ((∀ e, e ∈ B.1 ↔ e ∈ A.1) ∧ ∀ e, e ∈ B.2.1 ↔ e ∈ A.2.1) ∧ B.2.2 = A.2.2 ∧ Unq (B.1.map (·.1)) ∧ Unq (B.2.1.map (·.1))
theorem rfs_pm {A B : As} {T : List Th} {form told tAt np : Nat} {l : List It} (hT : Bti A B) (hN : Nod A.1 A.2.1) : rfs B.1 B.2.1 T form told tAt np l = rfs A.1 A.2.1 T form told tAt np l := by
  obtain ⟨⟨h1, h2⟩, _, u1, u2⟩ := hT
  have v1 := Unq.of hN.1
  have v2 := Unq.of hN.2
  have e1 : ∀ w, fnp B.2.1 w = fnp A.2.1 w := fun w => fbm_pm h2 u2 v2 w
  have e2 : ∀ w, thF B.2.1 w = thF A.2.1 w := fun w => fbm_pm h2 u2 v2 w
  have e3 : ∀ w, thN B.1 w = thN A.1 w := fun w => fbm_pm h1 u1 v1 w
  have e4 : ∀ w, (fix (B.1.map (·.1)) w).isSome = (fix (A.1.map (·.1)) w).isSome := by
    intro w
    have q : ∀ (l : List NE), (∀ e, e ∈ l ↔ e ∈ A.1) → ((fix (l.map (·.1)) w).isSome = true ↔ ∃ e ∈ A.1, e.1 = w) := by
      intro l hl
      rw [Option.isSome_iff_ne_none]
      constructor
      · intro c
        have := (Decidable.not_not.mp (fun d => c (fix_of.mpr d)) : w ∈ l.map (·.1))
        obtain ⟨e, h5, h6⟩ := List.mem_map.mp this
        exact ⟨e, (hl e).mp h5, h6⟩
      · rintro ⟨e, h5, h6⟩ c
        exact fix_of.mp c (h6 ▸ List.mem_map_of_mem ((hl e).mpr h5))
    exact Bool.eq_iff_iff.mpr ((q B.1 h1).trans (q A.1 (fun _ => Iff.rfl)).symm)
  have e5 : iknown B.1 B.2.1 = iknown A.1 A.2.1 := by
    funext it
    unfold iknown vof
    rw [e4, e1]
  have e6 : unk B.1 B.2.1 l = unk A.1 A.2.1 l := by
    unfold unk
    have : ukf B.1 B.2.1 = ukf A.1 A.2.1 := by
      funext a it
      unfold ukf
      rw [e5]
    rw [this]
  have e7 : tkn B.1 B.2.1 T form told np = tkn A.1 A.2.1 T form told np := by
    unfold tkn
    rw [e1, e2]
  have e8 : thO B.1 B.2.1 form told = thO A.1 A.2.1 form told := by
    unfold thO
    rw [e2, e3]
  unfold rfs
  rw [e6, e7, e8, mem_len h1 u1 v1, mem_len h2 u2 v2]
theorem Ths_mem {ns : List NE} {fs : List FE} {y : Th} : y ∈ Ths ns fs ↔ (∃ e ∈ ns, y = (0, e.1, e.2.1)) ∨ ∃ e ∈ fs, y = (1, e.1, e.2.2) := by
  unfold Ths
  rw [List.mem_append, List.mem_map, List.mem_map]
  constructor
  · rintro (⟨e, h1, h2⟩ | ⟨e, h1, h2⟩)
    · exact Or.inl ⟨e, h1, h2.symm⟩
    · exact Or.inr ⟨e, h1, h2.symm⟩
  · rintro (⟨e, h1, h2⟩ | ⟨e, h1, h2⟩)
    · exact Or.inl ⟨e, h1, h2.symm⟩
    · exact Or.inr ⟨e, h1, h2.symm⟩
theorem Bti.T {A B : As} (h : Bti A B) : ∀ e, e ∈ Ths B.1 B.2.1 ↔ e ∈ Ths A.1 A.2.1 := by
  intro y
  rw [Ths_mem, Ths_mem]
  constructor
  · rintro (⟨e, h1, h2⟩ | ⟨e, h1, h2⟩)
    · exact Or.inl ⟨e, (h.1.1 e).mp h1, h2⟩
    · exact Or.inr ⟨e, (h.1.2 e).mp h1, h2⟩
  · rintro (⟨e, h1, h2⟩ | ⟨e, h1, h2⟩)
    · exact Or.inl ⟨e, (h.1.1 e).mpr h1, h2⟩
    · exact Or.inr ⟨e, (h.1.2 e).mpr h1, h2⟩
/-- what is not refused ahead of its steps -/
theorem rfs_ok {ns : List NE} {fs : List FE} {T : List Th} {form told tAt np : Nat} {l : List It} (h : rfs ns fs T form told tAt np l = none) : unk ns fs l = none ∧ (form ≠ 0 → ¬ tkn ns fs T form told np ∧ (∀ e, thO ns fs form told = some e → ¬ Rch T l e) ∧ (thO ns fs form told = none → ¬ ((form = 1 ∧ ns.length = 20) ∨ (form ≠ 1 ∧ fs.length = 10)))) := by
  unfold rfs at h
  cases hu : unk ns fs l with
  | some p => rw [hu] at h; cases h
  | none =>
    rw [hu] at h
    refine ⟨rfl, fun hf => ?_⟩
    have h : pif (tkn ns fs T form told np) (some (2, tAt, []))
      (match thO ns fs form told with
      | none => if (form = 1 ∧ ns.length = 20) ∨ (form ≠ 1 ∧ fs.length = 10) then some (3, tAt, []) else none
      | some e => pif (Rch T l e) (some (4, tAt, sgw e :: (rngO T 30 l e).getD [])) none) = none := (if_neg hf).symm.trans h
    unfold pif at h
    split at h
    · cases h
    · rename_i c
      refine ⟨c, fun e he hr => ?_, fun he hc => ?_⟩
      · rw [he] at h
        have h : (@ite _ (Rch T l e) (Classical.propDecidable _) (some (4, tAt, sgw e :: (rngO T 30 l e).getD [])) none) = none := h
        rw [if_pos hr] at h
        cases h
      · rw [he] at h
        have h : (if (form = 1 ∧ ns.length = 20) ∨ (form ≠ 1 ∧ fs.length = 10) then some (3, tAt, ([] : List Int)) else none) = none := h
        rw [if_pos hc] at h
        cases h
theorem usb_ex {l : List It} {f w : Nat} (h : usb l f w = true) : ∃ it ∈ l, (f = 0 ∧ it.1 = 31 ∨ f = 1 ∧ it.1 = 33) ∧ it.2.1 = w := by
  unfold usb at h
  rw [List.any_eq_true] at h
  obtain ⟨it, h1, h2⟩ := h
  refine ⟨it, h1, ?_⟩
  unfold hit at h2
  simp only [Bool.and_eq_true, Bool.or_eq_true, beq_iff_eq] at h2
  exact h2
/-- a name that is used stands there -/
theorem ik_name {ns : List NE} {fs : List FE} {it : It} (h : iknown ns fs it = true) (h1 : it.1 = 31) : ∃ e ∈ ns, e.1 = it.2.1 := by
  unfold iknown at h
  rw [if_pos h1] at h
  cases hk : fix (ns.map (·.1)) it.2.1 with
  | none => rw [hk] at h; cases h
  | some k =>
    obtain ⟨e, h2, h3⟩ := fst_of (fix_get hk)
    exact ⟨e, List.mem_of_getElem? h2, h3⟩
theorem ik_fun {ns : List NE} {fs : List FE} {it : It} (h : iknown ns fs it = true) (h1 : it.1 = 33) (h0 : known it.2.1 = 0) : fnp fs it.2.1 = some it.2.2.1 := by
  unfold iknown at h
  rw [if_neg (by omega), if_pos h1] at h
  unfold vof at h
  rw [if_pos h0] at h
  exact beq_iff_eq.mp h
/-- all that a book keeps to -/
def Bkx (A : As) : Prop := Bkc A ∧ ((∀ e ∈ A.1, Wok e.1) ∧ ∀ e ∈ A.2.1, Wok e.1) ∧ (A.1.length ≤ 20 ∧ A.2.1.length ≤ 10) ∧ (∀ e ∈ Ths A.1 A.2.1, unk A.1 A.2.1 e.2.2 = none) ∧ ∀ e ∈ A.1, (∀ it ∈ e.2.1, OkI A.2.1 it) ∧ hts e.2.1 0 = some 1
theorem Bkx.srt {A : As} (h : Bkx A) : Srt (A.1.map (·.1)) ∧ Srt (A.2.1.map (·.1)) := Ths_srt.mp h.1.1.2.2.1
theorem Bkx.wk {A : As} (h : Bkx A) : (∀ v ∈ A.1.map (·.1), Wok v) ∧ ∀ v ∈ A.2.1.map (·.1), Wok v := by
  refine ⟨fun v hv => ?_, fun v hv => ?_⟩
  · obtain ⟨e, h1, rfl⟩ := List.mem_map.mp hv
    exact h.2.1.1 e h1
  · obtain ⟨e, h1, rfl⟩ := List.mem_map.mp hv
    exact h.2.1.2 e h1
theorem Bkx.ok {A B : As} (h : Bkx A) (hT : Bti A B) : Bok B.1 B.2.1 (Ths A.1 A.2.1) := ⟨h.1.1.2.2.1, hT.T, ⟨fun e he => (h.2.1.1 e ((hT.1.1 e).mp he)).1, fun e he => (h.2.1.2 e ((hT.1.2 e).mp he)).1⟩, hT.2.2.1.nd, hT.2.2.2.nd⟩
theorem plR_words {α : Type} {f : α → Nat} {l : List α} {w : Nat} {x : α} (hu : Unq (l.map f)) (hx : f x = w) : Unq ((plR l (fix (l.map f) w) x).map f) := by
  cases ho : fix (l.map f) w with
  | none =>
    show Unq ((l ++ [x]).map f)
    rw [List.map_append, List.map_cons, List.map_nil, hx]
    refine Unq.of (List.nodup_append.mpr ⟨hu.nd, by simp, fun a ha b hb e => ?_⟩)
    rw [List.mem_singleton] at hb
    subst hb
    subst e
    exact fix_of.mp ho ha
  | some k =>
    show Unq ((l.set k x).map f)
    have : (l.set k x).map f = l.map f := by
      apply List.ext_getElem?
      intro i
      rw [List.getElem?_map, List.getElem?_set, List.getElem?_map]
      by_cases c : k = i
      · subst c
        have hg := fix_get ho
        have hk := fix_lt ho
        rw [List.length_map] at hk
        rw [if_pos rfl, if_pos hk]
        rw [List.getElem?_map] at hg
        rw [hg, ← hx]
        rfl
      · rw [if_neg c]
    rw [this]
    exact hu
/-- a name is told: both orders of the book that follows -/
theorem tell_N {A B : As} {w wp p : Nat} {l : List It} {q : Qv} (hA : Bkx A) (hT : Bti A B) (hw : Wok w) (hrf : rfs A.1 A.2.1 (Ths A.1 A.2.1) 1 w wp 0 l = none) (hp : Plc (A.1.map (·.1)) w p) :
    (Srt ((plL A.1 p (isN (·.1) A.1 p w) (w, l, q)).map (·.1)) ∧ Unq ((plR B.1 (fix (B.1.map (·.1)) w) (w, l, q)).map (·.1))) ∧ Acy (Ths (plL A.1 p (isN (·.1) A.1 p w) (w, l, q)) A.2.1) ∧ (∀ e, e ∈ plR B.1 (fix (B.1.map (·.1)) w) (w, l, q) ↔ e ∈ plL A.1 p (isN (·.1) A.1 p w) (w, l, q)) ∧ (fix (B.1.map (·.1)) w = none → B.1.length < 20) ∧
    (∀ e, e ∈ plL A.1 p (isN (·.1) A.1 p w) (w, l, q) ↔ e = (w, l, q) ∨ (e ∈ A.1 ∧ e.1 ≠ w)) ∧ ∀ e ∈ Ths (plL A.1 p (isN (·.1) A.1 p w) (w, l, q)) A.2.1, unk (plL A.1 p (isN (·.1) A.1 p w) (w, l, q)) A.2.1 e.2.2 = none := by
  obtain ⟨s1, s2⟩ := hA.srt
  obtain ⟨k1, k2⟩ := hA.wk
  obtain ⟨g1, g2⟩ := rfs_ok hrf
  obtain ⟨g2, g3, g4⟩ := g2 (by omega)
  have hmem : ∀ e, e ∈ plL A.1 p (isN (·.1) A.1 p w) (w, l, q) ↔ e = (w, l, q) ∨ (e ∈ A.1 ∧ e.1 ≠ w) := fun e => plL_mem (f := fun (x : NE) => x.1) s1 k1 hw hp rfl
  have hmemR : ∀ e, e ∈ plR B.1 (fix (B.1.map (·.1)) w) (w, l, q) ↔ e = (w, l, q) ∨ (e ∈ B.1 ∧ e.1 ≠ w) := fun e => plR_mem (f := fun (x : NE) => x.1) hT.2.2.1 rfl
  have hnm : ∀ (it : It), it.2.1 = w → it.1 = 31 → iknown A.1 A.2.1 it = true → ∃ y ∈ Ths A.1 A.2.1, y.1 = 0 ∧ y.2.1 = w := by
    intro it h1 h2 h3
    obtain ⟨e, h4, h5⟩ := ik_name h3 h2
    exact ⟨(0, e.1, e.2.1), Ths_mem.mpr (Or.inl ⟨e, h4, rfl⟩), rfl, h5.trans h1⟩
  have hus : ∀ (a : List It), unk A.1 A.2.1 a = none → usb a 0 w = true → ∃ y ∈ Ths A.1 A.2.1, y.1 = 0 ∧ y.2.1 = w := by
    intro a h1 h2
    obtain ⟨it, h3, h4, h5⟩ := usb_ex h2
    exact hnm it h5 (by omega) (unk_none.mp h1 it h3)
  refine ⟨⟨?_, plR_words hT.2.2.1 rfl⟩, ?_, fun e => ?_, fun hf => ?_, hmem, fun y hy => ?_⟩
  · rw [plL_map]
    exact s1.pl k1 hw hp
  · refine Acy_tell (T := Ths A.1 A.2.1) (f := 0) (w := w) (l := l) (fun y hy => ?_) hA.1.1.2.2.2 (fun e he => hus _ (hA.2.2.2.1 e he)) (hus l g1) (fun y hy h1 h2 => ?_)
    · rcases Ths_mem.mp hy with ⟨e, h1, rfl⟩ | ⟨e, h1, rfl⟩
      · rcases (hmem e).mp h1 with rfl | ⟨h2, _⟩
        · exact Or.inl rfl
        · exact Or.inr (Ths_mem.mpr (Or.inl ⟨e, h2, rfl⟩))
      · exact Or.inr (Ths_mem.mpr (Or.inr ⟨e, h1, rfl⟩))
    · rcases Ths_mem.mp hy with ⟨e, h3, rfl⟩ | ⟨e, h3, rfl⟩
      · refine g3 _ ?_
        exact (fbm s1.unq).mpr ⟨e, h3, h2, rfl⟩
      · cases h1
  · rw [hmem, hmemR, hT.1.1]
  · have h5 : thO A.1 A.2.1 1 w = none := by
      cases h6 : thO A.1 A.2.1 1 w with
      | none => rfl
      | some y =>
        obtain ⟨e, h7, h8, _⟩ := (fbm s1.unq).mp h6
        exact absurd (List.mem_map_of_mem ((hT.1.1 e).mpr h7)) (h8 ▸ fix_of.mp hf)
    have := g4 h5
    have := hA.2.2.1.1
    have := mem_len hT.1.1 hT.2.2.1 s1.unq
    omega
  · have hik : ∀ (it : It), iknown A.1 A.2.1 it = true → iknown (plL A.1 p (isN (·.1) A.1 p w) (w, l, q)) A.2.1 it = true := by
      intro it h
      by_cases c : it.1 = 31
      · obtain ⟨e, h4, h5⟩ := ik_name h c
        unfold iknown
        rw [if_pos c]
        cases hf : fix ((plL A.1 p (isN (·.1) A.1 p w) (w, l, q)).map (·.1)) it.2.1 with
        | some k => rfl
        | none =>
          exfalso
          refine fix_of.mp hf ?_
          by_cases d : e.1 = w
          · rw [← h5, d]
            exact List.mem_map_of_mem (a := (w, l, q)) ((hmem _).mpr (Or.inl rfl))
          · rw [← h5]
            exact List.mem_map_of_mem ((hmem _).mpr (Or.inr ⟨h4, d⟩))
      · unfold iknown at h ⊢
        rw [if_neg c] at h ⊢
        exact h
    refine unk_none.mpr (fun it hit => hik it ?_)
    rcases Ths_mem.mp hy with ⟨e, h1, rfl⟩ | ⟨e, h1, rfl⟩
    · rcases (hmem e).mp h1 with rfl | ⟨h2, _⟩
      · exact unk_none.mp g1 it hit
      · exact unk_none.mp (hA.2.2.2.1 _ (Ths_mem.mpr (Or.inl ⟨e, h2, rfl⟩))) it hit
    · exact unk_none.mp (hA.2.2.2.1 _ (Ths_mem.mpr (Or.inr ⟨e, h1, rfl⟩))) it hit
/-- a function is told: both orders of the book that follows -/
theorem tell_F {A B : As} {w wp p np : Nat} {l : List It} (hA : Bkx A) (hT : Bti A B) (hw : Wok w) (hrf : rfs A.1 A.2.1 (Ths A.1 A.2.1) 2 w wp np l = none) (hp : Plc (A.2.1.map (·.1)) w p) :
    (Srt ((plL A.2.1 p (isN (·.1) A.2.1 p w) (w, np, l)).map (·.1)) ∧ Unq ((plR B.2.1 (fix (B.2.1.map (·.1)) w) (w, np, l)).map (·.1))) ∧ Acy (Ths A.1 (plL A.2.1 p (isN (·.1) A.2.1 p w) (w, np, l))) ∧ (∀ e, e ∈ plR B.2.1 (fix (B.2.1.map (·.1)) w) (w, np, l) ↔ e ∈ plL A.2.1 p (isN (·.1) A.2.1 p w) (w, np, l)) ∧ (fix (B.2.1.map (·.1)) w = none → B.2.1.length < 10) ∧
    (∀ e, e ∈ plL A.2.1 p (isN (·.1) A.2.1 p w) (w, np, l) ↔ e = (w, np, l) ∨ (e ∈ A.2.1 ∧ e.1 ≠ w)) ∧ ∀ e ∈ Ths A.1 (plL A.2.1 p (isN (·.1) A.2.1 p w) (w, np, l)), unk A.1 (plL A.2.1 p (isN (·.1) A.2.1 p w) (w, np, l)) e.2.2 = none := by
  obtain ⟨s1, s2⟩ := hA.srt
  obtain ⟨k1, k2⟩ := hA.wk
  obtain ⟨g1, g2⟩ := rfs_ok hrf
  obtain ⟨g2, g3, g4⟩ := g2 (by omega)
  have kn0 : known w = 0 := by
    rcases Nat.eq_zero_or_pos (known w) with h | h
    · exact h
    · exact absurd (Or.inl h) g2
  have hmem : ∀ e, e ∈ plL A.2.1 p (isN (·.1) A.2.1 p w) (w, np, l) ↔ e = (w, np, l) ∨ (e ∈ A.2.1 ∧ e.1 ≠ w) := fun e => plL_mem (f := fun (x : FE) => x.1) s2 k2 hw hp rfl
  have hmemR : ∀ e, e ∈ plR B.2.1 (fix (B.2.1.map (·.1)) w) (w, np, l) ↔ e = (w, np, l) ∨ (e ∈ B.2.1 ∧ e.1 ≠ w) := fun e => plR_mem (f := fun (x : FE) => x.1) hT.2.2.2 rfl
  have hus : ∀ (a : List It), unk A.1 A.2.1 a = none → usb a 1 w = true → ∃ y ∈ Ths A.1 A.2.1, y.1 = 1 ∧ y.2.1 = w := by
    intro a h1 h2
    obtain ⟨it, h3, h4, h5⟩ := usb_ex h2
    have h6 := ik_fun (unk_none.mp h1 it h3) (by omega) (by rw [h5]; exact kn0)
    obtain ⟨e, h7, h8, _⟩ := (fbm s2.unq).mp h6
    exact ⟨(1, e.1, e.2.2), Ths_mem.mpr (Or.inr ⟨e, h7, rfl⟩), rfl, h8.trans h5⟩
  have hring : ∀ y ∈ Ths A.1 A.2.1, y.1 = 1 → y.2.1 = w → ¬ Rch (Ths A.1 A.2.1) l y := by
    intro y hy h1 h2
    rcases Ths_mem.mp hy with ⟨e, h3, rfl⟩ | ⟨e, h3, rfl⟩
    · cases h1
    · refine g3 _ ?_
      exact (fbm s2.unq).mpr ⟨e, h3, h2, rfl⟩
  refine ⟨⟨?_, plR_words hT.2.2.2 rfl⟩, ?_, fun e => ?_, fun hf => ?_, hmem, fun y hy => ?_⟩
  · rw [plL_map]
    exact s2.pl k2 hw hp
  · refine Acy_tell (T := Ths A.1 A.2.1) (f := 1) (w := w) (l := l) (fun y hy => ?_) hA.1.1.2.2.2 (fun e he => hus _ (hA.2.2.2.1 e he)) (hus l g1) hring
    rcases Ths_mem.mp hy with ⟨e, h1, rfl⟩ | ⟨e, h1, rfl⟩
    · exact Or.inr (Ths_mem.mpr (Or.inl ⟨e, h1, rfl⟩))
    · rcases (hmem e).mp h1 with rfl | ⟨h2, _⟩
      · exact Or.inl rfl
      · exact Or.inr (Ths_mem.mpr (Or.inr ⟨e, h2, rfl⟩))
  · rw [hmem, hmemR, hT.1.2]
  · have h5 : thO A.1 A.2.1 2 w = none := by
      cases h6 : thO A.1 A.2.1 2 w with
      | none => rfl
      | some y =>
        obtain ⟨e, h7, h8, _⟩ := (fbm s2.unq).mp h6
        exact absurd (List.mem_map_of_mem ((hT.1.2 e).mpr h7)) (h8 ▸ fix_of.mp hf)
    have := g4 h5
    have := hA.2.2.1.2
    have := mem_len hT.1.2 hT.2.2.2 s2.unq
    omega
  · have s3 : Srt ((plL A.2.1 p (isN (·.1) A.2.1 p w) (w, np, l)).map (·.1)) := by
      rw [plL_map]
      exact s2.pl k2 hw hp
    have hik : ∀ (it : It), (it.1 = 33 → it.2.1 = w → fnp A.2.1 w = some it.2.2.1 → np = it.2.2.1) → iknown A.1 A.2.1 it = true → iknown A.1 (plL A.2.1 p (isN (·.1) A.2.1 p w) (w, np, l)) it = true := by
      intro it hz h
      by_cases c : it.1 = 31
      · unfold iknown at h ⊢
        rw [if_pos c] at h ⊢
        exact h
      · unfold iknown at h ⊢
        rw [if_neg c] at h ⊢
        by_cases c3 : it.1 = 33
        · rw [if_pos c3] at h ⊢
          unfold vof at h ⊢
          by_cases c0 : known it.2.1 = 0
          · rw [if_pos c0] at h ⊢
            have h := beq_iff_eq.mp h
            refine beq_iff_eq.mpr ?_
            by_cases d : it.2.1 = w
            · rw [d] at h ⊢
              have e := hz c3 d h
              exact (fbm s3.unq).mpr ⟨(w, np, l), (hmem _).mpr (Or.inl rfl), rfl, e⟩
            · obtain ⟨e, h1, h2, h3⟩ := (fbm s2.unq).mp h
              exact (fbm s3.unq).mpr ⟨e, (hmem _).mpr (Or.inr ⟨h1, fun z => d (h2.symm.trans z)⟩), h2, h3⟩
          · rw [if_neg c0] at h ⊢
            exact h
        · rw [if_neg c3] at h ⊢
    have hold : ∀ z ∈ Ths A.1 A.2.1, ¬ (z.1 = 1 ∧ z.2.1 = w) → unk A.1 (plL A.2.1 p (isN (·.1) A.2.1 p w) (w, np, l)) z.2.2 = none := by
      intro z hz hne
      refine unk_none.mpr (fun it hin => hik it (fun i1 i2 i3 => ?_) (unk_none.mp (hA.2.2.2.1 z hz) it hin))
      obtain ⟨e, h7, h8, h9⟩ := (fbm s2.unq).mp i3
      have hT2 : ((1, e.1, e.2.2) : Th) ∈ Ths A.1 A.2.1 := Ths_mem.mpr (Or.inr ⟨e, h7, rfl⟩)
      refine Classical.byContradiction fun c => g2 (Or.inr ⟨rfl, it.2.2.1, (1, e.1, e.2.2), i3, (fbm s2.unq).mpr ⟨e, h7, h8, rfl⟩, fun q => c q.symm, z, hz, fun q => hne (by rw [q]; exact ⟨rfl, h8⟩), Rch.one ⟨hT2, ?_⟩⟩)
      show usb z.2.2 1 e.1 = true
      unfold usb
      rw [List.any_eq_true]
      refine ⟨it, hin, ?_⟩
      unfold hit
      simp [i1, i2, h8]
    rcases Ths_mem.mp hy with ⟨e, h1, rfl⟩ | ⟨e, h1, rfl⟩
    · exact hold _ (Ths_mem.mpr (Or.inl ⟨e, h1, rfl⟩)) (fun z => by cases z.1)
    · rcases (hmem e).mp h1 with rfl | ⟨h2, h3⟩
      · refine unk_none.mpr (fun it hin => hik it (fun i1 i2 i3 => ?_) (unk_none.mp g1 it hin))
        exfalso
        obtain ⟨e, h7, h8, h9⟩ := (fbm s2.unq).mp i3
        have hT2 : ((1, e.1, e.2.2) : Th) ∈ Ths A.1 A.2.1 := Ths_mem.mpr (Or.inr ⟨e, h7, rfl⟩)
        refine hring _ hT2 rfl h8 (Rch.one ⟨hT2, ?_⟩)
        show usb l 1 e.1 = true
        unfold usb
        rw [List.any_eq_true]
        refine ⟨it, hin, ?_⟩
        unfold hit
        simp [i1, i2, h8]
      · exact hold _ (Ths_mem.mpr (Or.inr ⟨e, h2, rfl⟩)) (fun z => h3 z.2)
/-- renewing leaves words and sums as they are -/
theorem rnw_same {T : List Th} {fs : List FE} : ∀ (k : Nat) (ns ns' : List NE) (L : List Nat), rnw T fs k ns L = some (.inr ns') → ns'.map (fun e => (e.1, e.2.1)) = ns.map fun e => (e.1, e.2.1) := by
  intro k
  induction k with
  | zero =>
    intro ns ns' L h
    have e : rnw T fs 0 ns L = if L = [] then some (Sum.inr ns) else none := rfl
    rw [e] at h
    split at h
    · cases h; rfl
    · cases h
  | succ k ih =>
    intro ns ns' L h
    have e : rnw T fs (k + 1) ns L = if L = [] then some (Sum.inr ns) else (rdyF T L).bind fun i => ns[i]?.bind fun e => (wrk (nvl ns) (fbd fs) 1000000 [] e.2.1 [] 0 []).bind fun r => if r.1 = 0 then rnw T fs k (ns.set i (e.1, e.2.1, r.2.2.1)) (L.erase i) else some (Sum.inl e.1) := rfl
    rw [e] at h
    split at h
    · cases h; rfl
    · cases hi : rdyF T L with
      | none => rw [hi] at h; cases h
      | some i =>
        rw [hi] at h
        have h : (ns[i]?.bind fun e => (wrk (nvl ns) (fbd fs) 1000000 [] e.2.1 [] 0 []).bind fun r => if r.1 = 0 then rnw T fs k (ns.set i (e.1, e.2.1, r.2.2.1)) (L.erase i) else some (Sum.inl e.1)) = some (.inr ns') := h
        cases he : ns[i]? with
        | none => rw [he] at h; cases h
        | some e =>
          rw [he] at h
          have h : ((wrk (nvl ns) (fbd fs) 1000000 [] e.2.1 [] 0 []).bind fun r => if r.1 = 0 then rnw T fs k (ns.set i (e.1, e.2.1, r.2.2.1)) (L.erase i) else some (Sum.inl e.1)) = some (.inr ns') := h
          cases hr : wrk (nvl ns) (fbd fs) 1000000 [] e.2.1 [] 0 [] with
          | none => rw [hr] at h; cases h
          | some r =>
            rw [hr] at h
            have h : (if r.1 = 0 then rnw T fs k (ns.set i (e.1, e.2.1, r.2.2.1)) (L.erase i) else some (Sum.inl e.1)) = some (.inr ns') := h
            split at h
            · rw [ih _ _ _ h]
              apply List.ext_getElem?
              intro j
              rw [List.getElem?_map, List.getElem?_map, List.getElem?_set]
              split
              · rename_i c
                subst c
                split
                · rw [he]; rfl
                · rename_i c2
                  exact absurd (List.getElem?_eq_some_iff.mp he).1 c2
              · rfl
            · cases h
