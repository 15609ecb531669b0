/-! ===== the class' names worked anew ===== -/
theorem bm_not {v : Int32} {p : Nat → Prop} (h : Bm v p) : Bm (v ^^^ iz (-1)) (fun j => ¬ p j) := by
  intro j hj
  have e : (v ^^^ iz (-1)).toBitVec = v.toBitVec ^^^ 4294967295#32 := rfl
  have e2 : (4294967295#32 : BitVec 32) = BitVec.allOnes 32 := rfl
  show _ ↔ ¬ p j
  rw [e, e2, BitVec.getLsbD_xor, BitVec.getLsbD_allOnes, decide_eq_true hj, ← h j hj]
  cases v.toBitVec.getLsbD j <;> simp
/-- a thing told, made -/
def tlN (σ : St) (w np : Int32) (s v : Nat) : St := wF (wF (wI (wI (nw 15 0 4 σ) (fid 14 0) (sz σ) w) (fid 14 1) (sz σ) np) (fid 14 2) (sz σ) s) (fid 14 3) (sz σ) v
theorem tl_k {σ : St} : sK (nw 15 0 4 σ) (sz σ) = 15 := by
  show (if sz σ = sz σ then 15 else sK σ (sz σ)) = 15
  rw [if_pos rfl]
theorem cx_toldInit {w np : Int32} {s v : Nat} {σ1 : St} {a : Nat} (h0 : a ≠ 0) (hk : sK σ1 a = 15) : fX10_init σ1 a w np s v = some (wF (wF (wI (wI σ1 (fid 14 0) a w) (fid 14 1) a np) (fid 14 2) a s) (fid 14 3) a v, ()) := by
  have e0 : ckP (decide (¬ a = 0)) = some () := by rw [decide_eq_true h0]; rfl
  rw [n_fX10_init, e0]
  show Option.bind (pI σ1 14 0 a w) _ = _
  rw [sm_pI (show sK σ1 a = 14 + 1 from hk)]
  show Option.bind (pI (wI σ1 (fid 14 0) a w) 14 1 a np) _ = _
  rw [sm_pI (show sK (wI σ1 (fid 14 0) a w) a = 14 + 1 from hk)]
  show Option.bind (pF (wI (wI σ1 (fid 14 0) a w) (fid 14 1) a np) 14 2 a s) _ = _
  rw [sm_pF (show sK (wI (wI σ1 (fid 14 0) a w) (fid 14 1) a np) a = 14 + 1 from hk)]
  show Option.bind (pF (wF (wI (wI σ1 (fid 14 0) a w) (fid 14 1) a np) (fid 14 2) a s) 14 3 a v) _ = _
  rw [sm_pF (show sK (wF (wI (wI σ1 (fid 14 0) a w) (fid 14 1) a np) (fid 14 2) a s) a = 14 + 1 from hk)]
  rfl
theorem tlN_W {x s v a k c : Nat} {w np : Int32} {σ0 σ1 : St} (h : cW x s0 k c σ0 σ1) (ha : sz σ0 ≤ a) (hk : sK σ1 a = 15) : cW x s0 k c σ0 (wF (wF (wI (wI σ1 (fid 14 0) a w) (fid 14 1) a np) (fid 14 2) a s) (fid 14 3) a v) := by
  have g1 := h.tr0 (cWi (a := a) (f := fid 14 0) (v := w) h.hp (by omega) (by omega)) (fun r hr hs => by have : r = a := hs; omega)
  have g2 := g1.tr0 (cWi (a := a) (f := fid 14 1) (v := np) g1.hp (show sK σ1 a ≠ 8 by omega) (show sK σ1 a ≠ 100 by omega)) (fun r hr hs => by have : r = a := hs; omega)
  have g3 := g2.wf (a := a) (f := fid 14 2) (v := s) (Or.inl ha) (show sK σ1 a ≠ 8 by omega) (show sK σ1 a ≠ 100 by omega)
  exact g3.wf (a := a) (f := fid 14 3) (v := v) (Or.inl ha) (show sK σ1 a ≠ 8 by omega) (show sK σ1 a ≠ 100 by omega)
theorem tlN_T {x s v a w np : Nat} {l : List It} {vo : Option Qv} {σ1 : St} (ha : x + 84 < a) (hk : sK σ1 a = 15) (hw : w < 2147483648) (hnp : np ≤ 4) (hs : KSum (wF (wF (wI (wI σ1 (fid 14 0) a (nI w)) (fid 14 1) a (nI np)) (fid 14 2) a s) (fid 14 3) a v) x s l)
    (hv : match vo with | none => v = 0 | some q => KF (wF (wF (wI (wI σ1 (fid 14 0) a (nI w)) (fid 14 1) a (nI np)) (fid 14 2) a s) (fid 14 3) a v) x v q) : KTold (wF (wF (wI (wI σ1 (fid 14 0) a (nI w)) (fid 14 1) a (nI np)) (fid 14 2) a s) (fid 14 3) a v) x a w np l vo := by
  have e2 : sF (wF (wF (wI (wI σ1 (fid 14 0) a (nI w)) (fid 14 1) a (nI np)) (fid 14 2) a s) (fid 14 3) a v) (fid 14 2) a = s := (sF_wF_f (by decide)).trans sF_wF_eq
  have e3 : sF (wF (wF (wI (wI σ1 (fid 14 0) a (nI w)) (fid 14 1) a (nI np)) (fid 14 2) a s) (fid 14 3) a v) (fid 14 3) a = v := sF_wF_eq
  have i0 : sI (wI (wI σ1 (fid 14 0) a (nI w)) (fid 14 1) a (nI np)) (fid 14 0) a = nI w := (sI_wI_f (by decide)).trans sI_wI_eq
  have i1 : sI (wI (wI σ1 (fid 14 0) a (nI w)) (fid 14 1) a (nI np)) (fid 14 1) a = nI np := sI_wI_eq
  refine ⟨⟨ha, hk⟩, ⟨i0, hw⟩, ⟨i1, hnp⟩, by rw [e2]; exact hs, ?_⟩
  rw [e3]
  exact hv

theorem XS.ne8 {x na T : Nat} {σ : St} (hx : XS σ x) (hk : sK σ na = 108) (hT : tMu T) : x + T ≠ na := by
  intro e
  have := hx.k104 hT
  rw [e] at this
  omega
theorem KF.kq {x a na i t : Nat} {q : Qv} {σ : St} (h : KF σ x a q) (hx : XS σ x) (hk : sK σ na = 108) : KF (wQ σ na i t) x a q :=
  ⟨h.1, fun T j hT => by rw [show sQ (wQ σ na i t) (x + T) = sQ σ (x + T) from sQ_wQ_b (hx.ne8 hk hT)]; exact h.2.1 T j hT, h.2.2.1, h.2.2.2⟩
theorem KSum.kq {x s na i t : Nat} {l : List It} {σ : St} (h : KSum σ x s l) (hx : XS σ x) (hk : sK σ na = 108) : KSum (wQ σ na i t) x s l := by
  obtain ⟨h1, ka, oa, pa, ca, na', nn, hf, ⟨k1, k2, k3, k4, k5, k6⟩, hi⟩ := h
  have hne : na' ≠ na := fun e => by
    have := k5.2.1
    rw [e] at this
    omega
  refine ⟨h1, ka, oa, pa, ca, na', nn, hf, ⟨k1, k2, k3, k4, k5, k6⟩, fun j it hj => ?_⟩
  obtain ⟨g1, g2, g3, g4, g5, g6⟩ := hi j it hj
  refine ⟨g1, g2, fun h30 => ?_, g4, g5, g6⟩
  obtain ⟨u, w1, w2, w3⟩ := g3 h30
  refine ⟨u, w1, w2, ?_⟩
  rw [show sQ (wQ σ na i t) na' = sQ σ na' from sQ_wQ_b hne]
  exact w3.kq hx hk
theorem KTold.kq {x u na i t w np : Nat} {l : List It} {vo : Option Qv} {σ : St} (h : KTold σ x u w np l vo) (hx : XS σ x) (hk : sK σ na = 108) : KTold (wQ σ na i t) x u w np l vo := by
  obtain ⟨h1, h3, h4, h5, h6⟩ := h
  refine ⟨h1, h3, h4, h5.kq hx hk, ?_⟩
  cases vo with
  | none => exact h6
  | some q => exact KF.kq h6 hx hk
/-- a name's value worked anew comes into the book -/
theorem KBk.set {x b na fa i t : Nat} {ns : List NE} {fs : List FE} {e : NE} {σ : St} (h : KBk σ x b na fa ns fs) (hx : XS σ x) (hne : na ≠ fa) (ht : KTold σ x t e.1 0 e.2.1 (some e.2.2)) : KBk (wQ σ na i t) x b na fa (ns.set i e) fs := by
  obtain ⟨⟨h1, h2, h3⟩, g, ⟨k1, k2⟩, n1, f1⟩ := h
  refine ⟨⟨h1, h2, by rw [List.length_set]; exact h3⟩, g, ⟨⟨k1.1, k1.2.1, by rw [List.length_set]; exact k1.2.2⟩, k2⟩, fun j e' he => ?_, fun j e' he => ?_⟩
  · rw [List.getElem?_set] at he
    by_cases c : i = j
    · subst c
      rw [if_pos rfl] at he
      split at he
      · cases he
        rw [sQ_wQ_eq]
        exact ht.kq hx k1.2.1
      · cases he
    · rw [if_neg c] at he
      rw [sQ_wQ_j (fun q => c q.symm)]
      exact (n1 j e' he).kq hx k1.2.1
  · rw [show sQ (wQ σ na i t) fa = sQ σ fa from sQ_wQ_b (fun q => hne q.symm)]
    exact ⟨(f1 j e' he).1.kq hx k1.2.1, (f1 j e' he).2⟩
