/-! ===== an exception that is made and thrown ===== -/
theorem wz_K (σ : St) (z : Nat) : sK (wz σ z) = sK σ := rfl
theorem Wd.grown {D : Dt} {s t : State} {H : Heap} {σ : St} (hW : Wd D s H σ) (hvm : s.vm.Alike t.vm) (hz : H.size ≤ t.heap.size) (hk : ∀ q : Nat, q < H.size → t.heap[q]? = H[q]?) : Wd D t t.heap (wz σ (t.heap.size + 1)) := by
  obtain ⟨w1, w2, w3, w4, w5⟩ := hW
  have hF : ∀ q, H.size + 1 ≤ q → sK σ q = 0 := fun q hq => w2.2 q (by omega)
  have hFr : ∀ q, Fr (wz σ (t.heap.size + 1)) q → Fr σ q := by
    intro q h
    rcases h with h | h
    · exact Or.inl h
    · exact Or.inr (by have : t.heap.size + 1 ≤ q + 1 := h; omega)
  refine ⟨rfl, ⟨w2.1, fun a ha => hF a (by have h9 : t.heap.size + 1 ≤ a := ha; omega)⟩, w3.moved hvm, fun a => ?_, (w5.kept (σ1 := wz σ (t.heap.size + 1)) rfl rfl hFr (fun q h1 _ => hk q h1)).moved hvm⟩
  by_cases ha : a < H.size + 1
  · by_cases ha0 : a = 0
    · exact cOK.zero (by rw [ha0]; exact w2.1)
    · exact ((w4 a).kept (σ1 := wz σ (t.heap.size + 1)) rfl (fun _ => rfl) (fun _ => rfl) rfl (fun _ => rfl) (fun _ => rfl) (fun _ => rfl) (hk (a - 1) (by omega))).moved hvm
  · exact cOK.zero (hF a (by omega))
/-- a word that is of TB, or of TN -/
def inW (w : Cond) : Bool := (decide (w ∈ tables_1) || decide (w ∈ k2_sels lw_privs)) && (goodWord w || (nsW w && w.onTables))
theorem inW_el {args : Array Value} {s : State} {w : Cond} (hts : ∀ w ∈ TB, w.before args s = true) (hNW : NW s) (h : inW w = true) : w.before args s = true := by
  unfold inW at h
  simp only [Bool.and_eq_true, Bool.or_eq_true, decide_eq_true_eq] at h
  obtain ⟨h1, h2⟩ := h
  rcases h2 with h2 | ⟨h2, h3⟩
  · refine hts _ (List.mem_filter.mpr ⟨?_, h2⟩)
    rcases h1 with h1 | h1
    · exact List.mem_append_right _ (List.mem_append_right _ h1)
    · exact List.mem_append_right _ (List.mem_append_left _ h1)
  · rcases h1 with h1 | h1
    · exact va_Nw.use h3 (hNW _ (List.mem_filter.mpr ⟨h1, h2⟩))
    · obtain ⟨q, -, rfl⟩ := List.mem_map.mp h1
      cases h2
section RT
variable {M : Mt} {X : Xt} {σ : St} {pc : Nat} {L : List (Nat × Value)} {st : List Value}
theorem g_throw {cls : String} {names : List String} {ik ic : Nat} (d0 : decode M.1 pc = .ok (.new ik, 3)) (d3 : decode M.1 (pc + 3) = .ok (.dup, 1)) (d4 : decode M.1 (pc + 4) = .ok (.invokespecial ic, 3)) (d7 : decode M.1 (pc + 7) = .ok (.athrow, 1))
    (hcls : Bundle.fit cls = true) (hnames : ∀ n ∈ names, Bundle.fit n = true) (hw : (Cond.classLink M.2.2.1 ik cls :: Cond.initialized cls :: vx_at0 M.2.2.1 ic cls names).all inW = true) (hg : (Cond.classLink M.2.2.1 ik cls :: Cond.initialized cls :: vx_at0 M.2.2.1 ic cls names).all vx_ot = true)
    (hfr : names.length + 3 < M.2.2.2.2.1) (hlo : 2 * st.length + (13 * (names.length + 1) + 42) ≤ M.2.2.2.2.2.1) (hX : X.2.2.2 = .inr (.inl cls)) {σf : St} (hf9 : X.2.2.1 = σf) (hf : th σ = σf) : G M X σ pc L st := by
  subst hf9
  refine ⟨by rw [← hf]; exact ⟨Nat.le_succ _, Nat.le_add_right _ _⟩, fun p e R s m args below meth c Q D hC H locs k n ls a1 a2 a3 a4 a5 a6 => ?_⟩
  obtain ⟨hx, hb, hml, hown, hts, hNW, hlk, hrt, ⟨r1, r2, r3, r4⟩, hini9, hQ, hXX⟩ := id hC
  obtain ⟨hst, hex⟩ := hXX.1 cls hX
  have hwd : ∀ w ∈ Cond.classLink M.2.2.1 ik cls :: Cond.initialized cls :: vx_at0 M.2.2.1 ic cls names, w.before args s = true := fun w h => inW_el hts hNW (List.all_eq_true.mp hw w h)
  have hcs := cat_le st
  rw [hQ, QE_inr hX]
  have hsc : sc X.2.2.1 = sc σ + 1 := by rw [← hf]; rfl
  have hsw : sw X.2.2.1 = sw σ + 6 := by rw [← hf]; rfl
  have h5 := hXX.2.1
  refine vx_throw0 (A := Fr X.2.1) hx hb hst (own := M.2.2.1) (cls := cls) (names := names) (ik := ik) (ic := ic) hown hcls hnames (hwd _ List.mem_cons_self) (hwd _ (List.mem_cons_of_mem _ List.mem_cons_self)) (fun w h => hwd w (List.mem_cons_of_mem _ (List.mem_cons_of_mem _ h))) (fun w h => List.all_eq_true.mp hg w h) h5.2.2.2.1 h5.2.2.2.2.1 a2 (by rw [a6.1]) d0 d3 d4 d7 (fun x h => (hex x h).elim) (by omega) (by omega) (by omega) (by omega) hlk ?_ (fun z h => a2.2.2 z h) (by omega) (by omega)
  intro t hvm hz hk
  refine ⟨rfl, ⟨t.heap.size + 1, by rw [← hf]; show sz σ ≤ _; have := a1.1; omega, ?_⟩, ⟨Nat.le_trans a2.1 hz, fun q h1 h2 => (hk q (Nat.lt_of_lt_of_le h1 a2.1)).trans (a2.2.1 q h1 h2)⟩, fun q h => a3 q (by rw [← hf] at h; exact h)⟩
  rw [← hf]
  exact a1.grown hvm hz hk
end RT
def ocI (r : String ⊕ Int32) : Option Value ⊕ String := match r with
  | .inl E => .inr E
  | .inr v => .inl (some (.int v))
