def pL_law_2380 (c9 w9 : Nat) (k23 : St → Nat → Nat → Nat → Nat → Int32 → Prop) (σ : St) (x0 : Nat) (x1 : Nat) (x2 : Nat) (x3 : Nat) (x4 : Int32) : Prop := nm (x4 + 6) fun v1 => k23 σ x0 x1 x2 x3 v1
def pL_law_349 (c9 w9 : Nat) (k23 : St → Nat → Nat → Nat → Nat → Int32 → Prop) (σ : St) (x0 : Nat) (x1 : Nat) (x2 : Nat) (x3 : Nat) (x4 : Int32) : Prop := pL_law_2380 c9 w9 k23 σ x0 x1 x2 x3 x4
def pL_law_248 (c9 w9 : Nat) (k23 : St → Nat → Nat → Nat → Nat → Int32 → Prop) (σ : St) (x0 : Nat) (x1 : Nat) (x2 : Nat) (x3 : Nat) (x4 : Int32) : Prop := exB (ldI σ x0 (x4 + 1)) fun v1 => exB (ldI σ x0 (x4 + 2)) fun v2 => exB (ldI σ x0 (x4 + 3)) fun v3 => exB (ldI σ x0 (x4 + 4)) fun v4 => exB (ldI σ x0 (x4 + 5)) fun v5 => exW (fL_append σ x1 v1 v2 v3 v4 v5 x3) fun σ6 v7 => exB (ldI σ6 x0 (x4 + 1)) fun v9 => exB (ldI σ6 x0 (x4 + 2)) fun v10 => exB (ldI σ6 x0 (x4 + 3)) fun v11 => exB (ldI σ6 x0 (x4 + 4)) fun v12 => exB (ldI σ6 x0 (x4 + 5)) fun v13 => exB (ckK σ6 17 x2) fun _ => exC (fX12_append σ6 x2 v9 v10 v11 v12 v13) fun σ14 v15 => exB (ckK σ14 17 x2) fun _ => exC (fX12_thrown σ14 x2) fun σ17 v18 => if v18 = v7 then (if v7 = 0 then (exB (ldJ σ17 x3 0) fun v22 => if (lg_cmp v22 (Int32.toInt64 v15)) = 0 then (pL_law_349 c9 w9 k23 σ17 x0 x1 x2 x3 x4) else (False)) else (pL_law_349 c9 w9 k23 σ17 x0 x1 x2 x3 x4)) else (False)
def pL_law_352 (c9 w9 : Nat) (k23 : St → Nat → Nat → Nat → Nat → Int32 → Prop) (σ : St) (x0 : Nat) (x1 : Nat) (x2 : Nat) (x3 : Nat) (x4 : Int32) : Prop := exB (ckK σ 16 x1) fun _ => exC (fX11_clearTape σ x1) fun σ1 v2 => exB (ckK σ1 17 x2) fun _ => exC (fX12_clearTape σ1 x2) fun σ4 v5 => if v2 = v5 then (pL_law_2380 c9 w9 k23 σ4 x0 x1 x2 x3 x4) else (False)
def pL_law_406 (c9 w9 : Nat) (k23 : St → Nat → Nat → Nat → Nat → Int32 → Prop) (σ : St) (x0 : Nat) (x1 : Nat) (x2 : Nat) (x3 : Nat) (x4 : Int32) : Prop := pL_law_2380 c9 w9 k23 σ x0 x1 x2 x3 x4
def pL_law_365 (c9 w9 : Nat) (k23 : St → Nat → Nat → Nat → Nat → Int32 → Prop) (σ : St) (x0 : Nat) (x1 : Nat) (x2 : Nat) (x3 : Nat) (x4 : Int32) : Prop := exW (fL_run σ x1 x3) fun σ1 v2 => exB (ckK σ1 17 x2) fun _ => exC (fX12_run σ1 x2) fun σ4 v5 => exB (ckK σ4 17 x2) fun _ => exC (fX12_thrown σ4 x2) fun σ7 v8 => if v8 = v2 then (if v2 = 0 then (exB (ldJ σ7 x3 0) fun v12 => if (lg_cmp v12 (Int32.toInt64 v5)) = 0 then (pL_law_406 c9 w9 k23 σ7 x0 x1 x2 x3 x4) else (False)) else (pL_law_406 c9 w9 k23 σ7 x0 x1 x2 x3 x4)) else (False)
def pL_law_409 (c9 w9 : Nat) (k23 : St → Nat → Nat → Nat → Nat → Int32 → Prop) (σ : St) (x0 : Nat) (x1 : Nat) (x2 : Nat) (x3 : Nat) (x4 : Int32) : Prop := exB (ckK σ 16 x1) fun _ => exC (fX11_errorPosition σ x1) fun σ1 v2 => exB (ckK σ1 17 x2) fun _ => exC (fX12_errorPosition σ1 x2) fun σ4 v5 => if v2 = v5 then (pL_law_2380 c9 w9 k23 σ4 x0 x1 x2 x3 x4) else (False)
def pL_law_475 (c9 w9 : Nat) (k23 : St → Nat → Nat → Nat → Nat → Int32 → Prop) (σ : St) (x0 : Nat) (x1 : Nat) (x2 : Nat) (x3 : Nat) (x4 : Int32) : Prop := pL_law_2380 c9 w9 k23 σ x0 x1 x2 x3 x4
def pL_law_422 (c9 w9 : Nat) (k23 : St → Nat → Nat → Nat → Nat → Int32 → Prop) (σ : St) (x0 : Nat) (x1 : Nat) (x2 : Nat) (x3 : Nat) (x4 : Int32) : Prop := exB (ldI σ x0 (x4 + 1)) fun v1 => exW (fL_refused σ x1 v1 x3) fun σ2 v3 => exB (ldI σ2 x0 (x4 + 1)) fun v5 => exB (ckK σ2 17 x2) fun _ => exC (fX12_refused σ2 x2 v5) fun σ6 v7 => exB (ckK σ6 17 x2) fun _ => exC (fX12_thrown σ6 x2) fun σ9 v10 => if v10 = v3 then (if v3 = 0 then (exB (ldJ σ9 x3 0) fun v14 => if (lg_cmp v14 (Int32.toInt64 v7)) = 0 then (pL_law_475 c9 w9 k23 σ9 x0 x1 x2 x3 x4) else (False)) else (pL_law_475 c9 w9 k23 σ9 x0 x1 x2 x3 x4)) else (False)
def pL_law_478 (c9 w9 : Nat) (k23 : St → Nat → Nat → Nat → Nat → Int32 → Prop) (σ : St) (x0 : Nat) (x1 : Nat) (x2 : Nat) (x3 : Nat) (x4 : Int32) : Prop := exB (ckK σ 16 x1) fun _ => exC (fX11_failed σ x1) fun σ1 v2 => exB (ckK σ1 17 x2) fun _ => exC (fX12_failed σ1 x2) fun σ4 v5 => if v2 = v5 then (pL_law_2380 c9 w9 k23 σ4 x0 x1 x2 x3 x4) else (False)
def pL_law_491 (c9 w9 : Nat) (k23 : St → Nat → Nat → Nat → Nat → Int32 → Prop) (σ : St) (x0 : Nat) (x1 : Nat) (x2 : Nat) (x3 : Nat) (x4 : Int32) : Prop := exB (ckK σ 16 x1) fun _ => exC (fX11_ring σ x1) fun σ1 v2 => exB (ckK σ1 17 x2) fun _ => exC (fX12_ring σ1 x2) fun σ4 v5 => if v2 = v5 then (pL_law_2380 c9 w9 k23 σ4 x0 x1 x2 x3 x4) else (False)
def pL_law_557 (c9 w9 : Nat) (k23 : St → Nat → Nat → Nat → Nat → Int32 → Prop) (σ : St) (x0 : Nat) (x1 : Nat) (x2 : Nat) (x3 : Nat) (x4 : Int32) : Prop := pL_law_2380 c9 w9 k23 σ x0 x1 x2 x3 x4
def pL_law_504 (c9 w9 : Nat) (k23 : St → Nat → Nat → Nat → Nat → Int32 → Prop) (σ : St) (x0 : Nat) (x1 : Nat) (x2 : Nat) (x3 : Nat) (x4 : Int32) : Prop := exB (ldI σ x0 (x4 + 1)) fun v1 => exW (fL_ringAt σ x1 v1 x3) fun σ2 v3 => exB (ldI σ2 x0 (x4 + 1)) fun v5 => exB (ckK σ2 17 x2) fun _ => exC (fX12_ringAt σ2 x2 v5) fun σ6 v7 => exB (ckK σ6 17 x2) fun _ => exC (fX12_thrown σ6 x2) fun σ9 v10 => if v10 = v3 then (if v3 = 0 then (exB (ldJ σ9 x3 0) fun v14 => if (lg_cmp v14 (Int32.toInt64 v7)) = 0 then (pL_law_557 c9 w9 k23 σ9 x0 x1 x2 x3 x4) else (False)) else (pL_law_557 c9 w9 k23 σ9 x0 x1 x2 x3 x4)) else (False)
def pL_law_560 (c9 w9 : Nat) (k23 : St → Nat → Nat → Nat → Nat → Int32 → Prop) (σ : St) (x0 : Nat) (x1 : Nat) (x2 : Nat) (x3 : Nat) (x4 : Int32) : Prop := exB (ckK σ 16 x1) fun _ => exC (fX11_sign σ x1) fun σ1 v2 => exB (ckK σ1 17 x2) fun _ => exC (fX12_sign σ1 x2) fun σ4 v5 => if v2 = v5 then (pL_law_2380 c9 w9 k23 σ4 x0 x1 x2 x3 x4) else (False)
def pL_law_606 (c9 w9 : Nat) (k23 : St → Nat → Nat → Nat → Nat → Int32 → Prop) (σ : St) (x0 : Nat) (x1 : Nat) (x2 : Nat) (x3 : Nat) (x4 : Int32) (y0 : Int32) (y1 : Nat) (y2 : Int32) : Prop := exB (ckK σ 17 y1) fun _ => exC (fX12_digits σ y1 y2) fun σ1 v2 => if y0 = v2 then (pL_law_2380 c9 w9 k23 σ1 x0 x1 x2 x3 x4) else (False)
def pL_law_588 (c9 w9 : Nat) (k23 : St → Nat → Nat → Nat → Nat → Int32 → Prop) (σ : St) (x0 : Nat) (x1 : Nat) (x2 : Nat) (x3 : Nat) (x4 : Int32) (y0 : Nat) (y1 : Int32) : Prop := exB (ckK σ 16 y0) fun _ => exC (fX11_digits σ y0 y1) fun σ1 v2 => exB (ldI σ1 x0 (x4 + 1)) fun v4 => if v4 = 0 then (pL_law_606 c9 w9 k23 σ1 x0 x1 x2 x3 x4 v2 x2 0) else (pL_law_606 c9 w9 k23 σ1 x0 x1 x2 x3 x4 v2 x2 1)
def pL_law_573 (c9 w9 : Nat) (k23 : St → Nat → Nat → Nat → Nat → Int32 → Prop) (σ : St) (x0 : Nat) (x1 : Nat) (x2 : Nat) (x3 : Nat) (x4 : Int32) : Prop := exB (ldI σ x0 (x4 + 1)) fun v1 => if v1 = 0 then (pL_law_588 c9 w9 k23 σ x0 x1 x2 x3 x4 x1 0) else (pL_law_588 c9 w9 k23 σ x0 x1 x2 x3 x4 x1 1)
def pL_law_695 (c9 w9 : Nat) (k23 : St → Nat → Nat → Nat → Nat → Int32 → Prop) (σ : St) (x0 : Nat) (x1 : Nat) (x2 : Nat) (x3 : Nat) (x4 : Int32) : Prop := pL_law_2380 c9 w9 k23 σ x0 x1 x2 x3 x4
def pL_law_656 (c9 w9 : Nat) (k23 : St → Nat → Nat → Nat → Nat → Int32 → Prop) (σ : St) (x0 : Nat) (x1 : Nat) (x2 : Nat) (x3 : Nat) (x4 : Int32) (x5 : Int32) (y0 : Nat) (y1 : Int32) : Prop := exB (ldI σ x0 (x4 + 2)) fun v1 => exB (ckK σ 17 y0) fun _ => exC (fX12_digit σ y0 y1 v1) fun σ2 v3 => exB (ckK σ2 17 x2) fun _ => exC (fX12_thrown σ2 x2) fun σ5 v6 => if v6 = x5 then (if x5 = 0 then (exB (ldJ σ5 x3 0) fun v10 => if (lg_cmp v10 (Int32.toInt64 v3)) = 0 then (pL_law_695 c9 w9 k23 σ5 x0 x1 x2 x3 x4) else (False)) else (pL_law_695 c9 w9 k23 σ5 x0 x1 x2 x3 x4)) else (False)
def pL_law_629 (c9 w9 : Nat) (k23 : St → Nat → Nat → Nat → Nat → Int32 → Prop) (σ : St) (x0 : Nat) (x1 : Nat) (x2 : Nat) (x3 : Nat) (x4 : Int32) (y0 : Nat) (y1 : Int32) : Prop := exB (ldI σ x0 (x4 + 2)) fun v1 => exW (fL_digit σ y0 y1 v1 x3) fun σ2 v3 => exB (ldI σ2 x0 (x4 + 1)) fun v5 => if v5 = 0 then (pL_law_656 c9 w9 k23 σ2 x0 x1 x2 x3 x4 v3 x2 0) else (pL_law_656 c9 w9 k23 σ2 x0 x1 x2 x3 x4 v3 x2 1)
def pL_law_614 (c9 w9 : Nat) (k23 : St → Nat → Nat → Nat → Nat → Int32 → Prop) (σ : St) (x0 : Nat) (x1 : Nat) (x2 : Nat) (x3 : Nat) (x4 : Int32) : Prop := exB (ldI σ x0 (x4 + 1)) fun v1 => if v1 = 0 then (pL_law_629 c9 w9 k23 σ x0 x1 x2 x3 x4 x1 0) else (pL_law_629 c9 w9 k23 σ x0 x1 x2 x3 x4 x1 1)
def pL_law_731 (c9 w9 : Nat) (k23 : St → Nat → Nat → Nat → Nat → Int32 → Prop) (σ : St) (x0 : Nat) (x1 : Nat) (x2 : Nat) (x3 : Nat) (x4 : Int32) (y0 : Int32) (y1 : Nat) (y2 : Int32) : Prop := exB (ckK σ 17 y1) fun _ => exC (fX12_write σ y1 y2) fun σ1 v2 => if y0 = v2 then (pL_law_2380 c9 w9 k23 σ1 x0 x1 x2 x3 x4) else (False)
def pL_law_713 (c9 w9 : Nat) (k23 : St → Nat → Nat → Nat → Nat → Int32 → Prop) (σ : St) (x0 : Nat) (x1 : Nat) (x2 : Nat) (x3 : Nat) (x4 : Int32) (y0 : Nat) (y1 : Int32) : Prop := exB (ckK σ 16 y0) fun _ => exC (fX11_write σ y0 y1) fun σ1 v2 => exB (ldI σ1 x0 (x4 + 1)) fun v4 => if v4 = 0 then (pL_law_731 c9 w9 k23 σ1 x0 x1 x2 x3 x4 v2 x2 0) else (pL_law_731 c9 w9 k23 σ1 x0 x1 x2 x3 x4 v2 x2 1)
def pL_law_698 (c9 w9 : Nat) (k23 : St → Nat → Nat → Nat → Nat → Int32 → Prop) (σ : St) (x0 : Nat) (x1 : Nat) (x2 : Nat) (x3 : Nat) (x4 : Int32) : Prop := exB (ldI σ x0 (x4 + 1)) fun v1 => if v1 = 0 then (pL_law_713 c9 w9 k23 σ x0 x1 x2 x3 x4 x1 0) else (pL_law_713 c9 w9 k23 σ x0 x1 x2 x3 x4 x1 1)
def pL_law_792 (c9 w9 : Nat) (k23 : St → Nat → Nat → Nat → Nat → Int32 → Prop) (σ : St) (x0 : Nat) (x1 : Nat) (x2 : Nat) (x3 : Nat) (x4 : Int32) : Prop := pL_law_2380 c9 w9 k23 σ x0 x1 x2 x3 x4
def pL_law_739 (c9 w9 : Nat) (k23 : St → Nat → Nat → Nat → Nat → Int32 → Prop) (σ : St) (x0 : Nat) (x1 : Nat) (x2 : Nat) (x3 : Nat) (x4 : Int32) : Prop := exB (ldI σ x0 (x4 + 1)) fun v1 => exW (fL_writtenAt σ x1 v1 x3) fun σ2 v3 => exB (ldI σ2 x0 (x4 + 1)) fun v5 => exB (ckK σ2 17 x2) fun _ => exC (fX12_writtenAt σ2 x2 v5) fun σ6 v7 => exB (ckK σ6 17 x2) fun _ => exC (fX12_thrown σ6 x2) fun σ9 v10 => if v10 = v3 then (if v3 = 0 then (exB (ldJ σ9 x3 0) fun v14 => if (lg_cmp v14 (Int32.toInt64 v7)) = 0 then (pL_law_792 c9 w9 k23 σ9 x0 x1 x2 x3 x4) else (False)) else (pL_law_792 c9 w9 k23 σ9 x0 x1 x2 x3 x4)) else (False)
def pL_law_848 (c9 w9 : Nat) (k23 : St → Nat → Nat → Nat → Nat → Int32 → Prop) (σ : St) (x0 : Nat) (x1 : Nat) (x2 : Nat) (x3 : Nat) (x4 : Int32) : Prop := pL_law_2380 c9 w9 k23 σ x0 x1 x2 x3 x4
def pL_law_795 (c9 w9 : Nat) (k23 : St → Nat → Nat → Nat → Nat → Int32 → Prop) (σ : St) (x0 : Nat) (x1 : Nat) (x2 : Nat) (x3 : Nat) (x4 : Int32) : Prop := exB (ldI σ x0 (x4 + 1)) fun v1 => exW (fL_keep σ x1 v1 x3) fun σ2 v3 => exB (ldI σ2 x0 (x4 + 1)) fun v5 => exB (ckK σ2 17 x2) fun _ => exC (fX12_keep σ2 x2 v5) fun σ6 v7 => exB (ckK σ6 17 x2) fun _ => exC (fX12_thrown σ6 x2) fun σ9 v10 => if v10 = v3 then (if v3 = 0 then (exB (ldJ σ9 x3 0) fun v14 => if (lg_cmp v14 (Int32.toInt64 v7)) = 0 then (pL_law_848 c9 w9 k23 σ9 x0 x1 x2 x3 x4) else (False)) else (pL_law_848 c9 w9 k23 σ9 x0 x1 x2 x3 x4)) else (False)
def pL_law_904 (c9 w9 : Nat) (k23 : St → Nat → Nat → Nat → Nat → Int32 → Prop) (σ : St) (x0 : Nat) (x1 : Nat) (x2 : Nat) (x3 : Nat) (x4 : Int32) : Prop := pL_law_2380 c9 w9 k23 σ x0 x1 x2 x3 x4
def pL_law_851 (c9 w9 : Nat) (k23 : St → Nat → Nat → Nat → Nat → Int32 → Prop) (σ : St) (x0 : Nat) (x1 : Nat) (x2 : Nat) (x3 : Nat) (x4 : Int32) : Prop := exB (ldI σ x0 (x4 + 1)) fun v1 => exW (fL_take σ x1 v1 x3) fun σ2 v3 => exB (ldI σ2 x0 (x4 + 1)) fun v5 => exB (ckK σ2 17 x2) fun _ => exC (fX12_take σ2 x2 v5) fun σ6 v7 => exB (ckK σ6 17 x2) fun _ => exC (fX12_thrown σ6 x2) fun σ9 v10 => if v10 = v3 then (if v3 = 0 then (exB (ldJ σ9 x3 0) fun v14 => if (lg_cmp v14 (Int32.toInt64 v7)) = 0 then (pL_law_904 c9 w9 k23 σ9 x0 x1 x2 x3 x4) else (False)) else (pL_law_904 c9 w9 k23 σ9 x0 x1 x2 x3 x4)) else (False)
def pL_law_972 (c9 w9 : Nat) (k23 : St → Nat → Nat → Nat → Nat → Int32 → Prop) (σ : St) (x0 : Nat) (x1 : Nat) (x2 : Nat) (x3 : Nat) (x4 : Int32) : Prop := pL_law_2380 c9 w9 k23 σ x0 x1 x2 x3 x4
def pL_law_907 (c9 w9 : Nat) (k23 : St → Nat → Nat → Nat → Nat → Int32 → Prop) (σ : St) (x0 : Nat) (x1 : Nat) (x2 : Nat) (x3 : Nat) (x4 : Int32) : Prop := exB (ldI σ x0 (x4 + 1)) fun v1 => exB (ldI σ x0 (x4 + 2)) fun v2 => exW (fL_compare σ x1 v1 v2 x3) fun σ3 v4 => exB (ldI σ3 x0 (x4 + 1)) fun v6 => exB (ldI σ3 x0 (x4 + 2)) fun v7 => exB (ckK σ3 17 x2) fun _ => exC (fX12_compare σ3 x2 v6 v7) fun σ8 v9 => exB (ckK σ8 17 x2) fun _ => exC (fX12_thrown σ8 x2) fun σ11 v12 => if v12 = v4 then (if v4 = 0 then (exB (ldJ σ11 x3 0) fun v16 => if (lg_cmp v16 (Int32.toInt64 v9)) = 0 then (pL_law_972 c9 w9 k23 σ11 x0 x1 x2 x3 x4) else (False)) else (pL_law_972 c9 w9 k23 σ11 x0 x1 x2 x3 x4)) else (False)
def pL_law_975 (c9 w9 : Nat) (k23 : St → Nat → Nat → Nat → Nat → Int32 → Prop) (σ : St) (x0 : Nat) (x1 : Nat) (x2 : Nat) (x3 : Nat) (x4 : Int32) : Prop := exB (ckK σ 16 x1) fun _ => exC (fX11_names σ x1) fun σ1 v2 => exB (ckK σ1 17 x2) fun _ => exC (fX12_names σ1 x2) fun σ4 v5 => if v2 = v5 then (pL_law_2380 c9 w9 k23 σ4 x0 x1 x2 x3 x4) else (False)
def pL_law_1041 (c9 w9 : Nat) (k23 : St → Nat → Nat → Nat → Nat → Int32 → Prop) (σ : St) (x0 : Nat) (x1 : Nat) (x2 : Nat) (x3 : Nat) (x4 : Int32) : Prop := pL_law_2380 c9 w9 k23 σ x0 x1 x2 x3 x4
def pL_law_988 (c9 w9 : Nat) (k23 : St → Nat → Nat → Nat → Nat → Int32 → Prop) (σ : St) (x0 : Nat) (x1 : Nat) (x2 : Nat) (x3 : Nat) (x4 : Int32) : Prop := exB (ldI σ x0 (x4 + 1)) fun v1 => exW (fL_nameAt σ x1 v1 x3) fun σ2 v3 => exB (ldI σ2 x0 (x4 + 1)) fun v5 => exB (ckK σ2 17 x2) fun _ => exC (fX12_nameAt σ2 x2 v5) fun σ6 v7 => exB (ckK σ6 17 x2) fun _ => exC (fX12_thrown σ6 x2) fun σ9 v10 => if v10 = v3 then (if v3 = 0 then (exB (ldJ σ9 x3 0) fun v14 => if (lg_cmp v14 (Int32.toInt64 v7)) = 0 then (pL_law_1041 c9 w9 k23 σ9 x0 x1 x2 x3 x4) else (False)) else (pL_law_1041 c9 w9 k23 σ9 x0 x1 x2 x3 x4)) else (False)
def pL_law_1097 (c9 w9 : Nat) (k23 : St → Nat → Nat → Nat → Nat → Int32 → Prop) (σ : St) (x0 : Nat) (x1 : Nat) (x2 : Nat) (x3 : Nat) (x4 : Int32) : Prop := pL_law_2380 c9 w9 k23 σ x0 x1 x2 x3 x4
def pL_law_1044 (c9 w9 : Nat) (k23 : St → Nat → Nat → Nat → Nat → Int32 → Prop) (σ : St) (x0 : Nat) (x1 : Nat) (x2 : Nat) (x3 : Nat) (x4 : Int32) : Prop := exB (ldI σ x0 (x4 + 1)) fun v1 => exW (fL_takeName σ x1 v1 x3) fun σ2 v3 => exB (ldI σ2 x0 (x4 + 1)) fun v5 => exB (ckK σ2 17 x2) fun _ => exC (fX12_takeName σ2 x2 v5) fun σ6 v7 => exB (ckK σ6 17 x2) fun _ => exC (fX12_thrown σ6 x2) fun σ9 v10 => if v10 = v3 then (if v3 = 0 then (exB (ldJ σ9 x3 0) fun v14 => if (lg_cmp v14 (Int32.toInt64 v7)) = 0 then (pL_law_1097 c9 w9 k23 σ9 x0 x1 x2 x3 x4) else (False)) else (pL_law_1097 c9 w9 k23 σ9 x0 x1 x2 x3 x4)) else (False)
def pL_law_1100 (c9 w9 : Nat) (k23 : St → Nat → Nat → Nat → Nat → Int32 → Prop) (σ : St) (x0 : Nat) (x1 : Nat) (x2 : Nat) (x3 : Nat) (x4 : Int32) : Prop := exB (ckK σ 16 x1) fun _ => exC (fX11_functions σ x1) fun σ1 v2 => exB (ckK σ1 17 x2) fun _ => exC (fX12_functions σ1 x2) fun σ4 v5 => if v2 = v5 then (pL_law_2380 c9 w9 k23 σ4 x0 x1 x2 x3 x4) else (False)
def pL_law_1166 (c9 w9 : Nat) (k23 : St → Nat → Nat → Nat → Nat → Int32 → Prop) (σ : St) (x0 : Nat) (x1 : Nat) (x2 : Nat) (x3 : Nat) (x4 : Int32) : Prop := pL_law_2380 c9 w9 k23 σ x0 x1 x2 x3 x4
def pL_law_1113 (c9 w9 : Nat) (k23 : St → Nat → Nat → Nat → Nat → Int32 → Prop) (σ : St) (x0 : Nat) (x1 : Nat) (x2 : Nat) (x3 : Nat) (x4 : Int32) : Prop := exB (ldI σ x0 (x4 + 1)) fun v1 => exW (fL_parameters σ x1 v1 x3) fun σ2 v3 => exB (ldI σ2 x0 (x4 + 1)) fun v5 => exB (ckK σ2 17 x2) fun _ => exC (fX12_parameters σ2 x2 v5) fun σ6 v7 => exB (ckK σ6 17 x2) fun _ => exC (fX12_thrown σ6 x2) fun σ9 v10 => if v10 = v3 then (if v3 = 0 then (exB (ldJ σ9 x3 0) fun v14 => if (lg_cmp v14 (Int32.toInt64 v7)) = 0 then (pL_law_1166 c9 w9 k23 σ9 x0 x1 x2 x3 x4) else (False)) else (pL_law_1166 c9 w9 k23 σ9 x0 x1 x2 x3 x4)) else (False)
def pL_law_1254 (c9 w9 : Nat) (k23 : St → Nat → Nat → Nat → Nat → Int32 → Prop) (σ : St) (x0 : Nat) (x1 : Nat) (x2 : Nat) (x3 : Nat) (x4 : Int32) (y0 : Int32) (y1 : Nat) (y2 : Int32) (y3 : Int32) (y4 : Int32) (y5 : Int32) : Prop := exB (ckK σ 17 y1) fun _ => exC (fX12_uses σ y1 y2 y3 y4 y5) fun σ1 v2 => if y0 = v2 then (pL_law_2380 c9 w9 k23 σ1 x0 x1 x2 x3 x4) else (False)
def pL_law_1234 (c9 w9 : Nat) (k23 : St → Nat → Nat → Nat → Nat → Int32 → Prop) (σ : St) (x0 : Nat) (x1 : Nat) (x2 : Nat) (x3 : Nat) (x4 : Int32) (y0 : Int32) (y1 : Nat) (y2 : Int32) (y3 : Int32) : Prop := exB (ldI σ x0 (x4 + 3)) fun v1 => exB (ldI σ x0 (x4 + 4)) fun v2 => if v2 = 0 then (pL_law_1254 c9 w9 k23 σ x0 x1 x2 x3 x4 y0 y1 y2 y3 v1 0) else (pL_law_1254 c9 w9 k23 σ x0 x1 x2 x3 x4 y0 y1 y2 y3 v1 1)
def pL_law_1210 (c9 w9 : Nat) (k23 : St → Nat → Nat → Nat → Nat → Int32 → Prop) (σ : St) (x0 : Nat) (x1 : Nat) (x2 : Nat) (x3 : Nat) (x4 : Int32) (y0 : Nat) (y1 : Int32) (y2 : Int32) (y3 : Int32) (y4 : Int32) : Prop := exB (ckK σ 16 y0) fun _ => exC (fX11_uses σ y0 y1 y2 y3 y4) fun σ1 v2 => exB (ldI σ1 x0 (x4 + 1)) fun v4 => exB (ldI σ1 x0 (x4 + 2)) fun v5 => if v5 = 0 then (pL_law_1234 c9 w9 k23 σ1 x0 x1 x2 x3 x4 v2 x2 v4 0) else (pL_law_1234 c9 w9 k23 σ1 x0 x1 x2 x3 x4 v2 x2 v4 1)
def pL_law_1190 (c9 w9 : Nat) (k23 : St → Nat → Nat → Nat → Nat → Int32 → Prop) (σ : St) (x0 : Nat) (x1 : Nat) (x2 : Nat) (x3 : Nat) (x4 : Int32) (y0 : Nat) (y1 : Int32) (y2 : Int32) : Prop := exB (ldI σ x0 (x4 + 3)) fun v1 => exB (ldI σ x0 (x4 + 4)) fun v2 => if v2 = 0 then (pL_law_1210 c9 w9 k23 σ x0 x1 x2 x3 x4 y0 y1 y2 v1 0) else (pL_law_1210 c9 w9 k23 σ x0 x1 x2 x3 x4 y0 y1 y2 v1 1)
def pL_law_1169 (c9 w9 : Nat) (k23 : St → Nat → Nat → Nat → Nat → Int32 → Prop) (σ : St) (x0 : Nat) (x1 : Nat) (x2 : Nat) (x3 : Nat) (x4 : Int32) : Prop := exB (ldI σ x0 (x4 + 1)) fun v1 => exB (ldI σ x0 (x4 + 2)) fun v2 => if v2 = 0 then (pL_law_1190 c9 w9 k23 σ x0 x1 x2 x3 x4 x1 v1 0) else (pL_law_1190 c9 w9 k23 σ x0 x1 x2 x3 x4 x1 v1 1)
def pL_law_1307 (c9 w9 : Nat) (k23 : St → Nat → Nat → Nat → Nat → Int32 → Prop) (σ : St) (x0 : Nat) (x1 : Nat) (x2 : Nat) (x3 : Nat) (x4 : Int32) (y0 : Int32) (y1 : Nat) (y2 : Int32) (y3 : Int32) : Prop := exB (ckK σ 17 y1) fun _ => exC (fX12_users_ σ y1 y2 y3) fun σ1 v2 => if y0 = v2 then (pL_law_2380 c9 w9 k23 σ1 x0 x1 x2 x3 x4) else (False)
def pL_law_1283 (c9 w9 : Nat) (k23 : St → Nat → Nat → Nat → Nat → Int32 → Prop) (σ : St) (x0 : Nat) (x1 : Nat) (x2 : Nat) (x3 : Nat) (x4 : Int32) (y0 : Nat) (y1 : Int32) (y2 : Int32) : Prop := exB (ckK σ 16 y0) fun _ => exC (fX11_users σ y0 y1 y2) fun σ1 v2 => exB (ldI σ1 x0 (x4 + 1)) fun v4 => exB (ldI σ1 x0 (x4 + 2)) fun v5 => if v5 = 0 then (pL_law_1307 c9 w9 k23 σ1 x0 x1 x2 x3 x4 v2 x2 v4 0) else (pL_law_1307 c9 w9 k23 σ1 x0 x1 x2 x3 x4 v2 x2 v4 1)
def pL_law_1262 (c9 w9 : Nat) (k23 : St → Nat → Nat → Nat → Nat → Int32 → Prop) (σ : St) (x0 : Nat) (x1 : Nat) (x2 : Nat) (x3 : Nat) (x4 : Int32) : Prop := exB (ldI σ x0 (x4 + 1)) fun v1 => exB (ldI σ x0 (x4 + 2)) fun v2 => if v2 = 0 then (pL_law_1283 c9 w9 k23 σ x0 x1 x2 x3 x4 x1 v1 0) else (pL_law_1283 c9 w9 k23 σ x0 x1 x2 x3 x4 x1 v1 1)
def pL_law_1396 (c9 w9 : Nat) (k23 : St → Nat → Nat → Nat → Nat → Int32 → Prop) (σ : St) (x0 : Nat) (x1 : Nat) (x2 : Nat) (x3 : Nat) (x4 : Int32) : Prop := pL_law_2380 c9 w9 k23 σ x0 x1 x2 x3 x4
def pL_law_1363 (c9 w9 : Nat) (k23 : St → Nat → Nat → Nat → Nat → Int32 → Prop) (σ : St) (x0 : Nat) (x1 : Nat) (x2 : Nat) (x3 : Nat) (x4 : Int32) (x5 : Int32) (y0 : Nat) (y1 : Int32) (y2 : Int32) : Prop := exB (ckK σ 17 y0) fun _ => exC (fX12_drop σ y0 y1 y2) fun σ1 v2 => exB (ckK σ1 17 x2) fun _ => exC (fX12_thrown σ1 x2) fun σ4 v5 => if v5 = x5 then (if x5 = 0 then (exB (ldJ σ4 x3 0) fun v9 => if (lg_cmp v9 (Int32.toInt64 v2)) = 0 then (pL_law_1396 c9 w9 k23 σ4 x0 x1 x2 x3 x4) else (False)) else (pL_law_1396 c9 w9 k23 σ4 x0 x1 x2 x3 x4)) else (False)
def pL_law_1336 (c9 w9 : Nat) (k23 : St → Nat → Nat → Nat → Nat → Int32 → Prop) (σ : St) (x0 : Nat) (x1 : Nat) (x2 : Nat) (x3 : Nat) (x4 : Int32) (y0 : Nat) (y1 : Int32) (y2 : Int32) : Prop := exW (fL_drop σ y0 y1 y2 x3) fun σ1 v2 => exB (ldI σ1 x0 (x4 + 1)) fun v4 => exB (ldI σ1 x0 (x4 + 2)) fun v5 => if v5 = 0 then (pL_law_1363 c9 w9 k23 σ1 x0 x1 x2 x3 x4 v2 x2 v4 0) else (pL_law_1363 c9 w9 k23 σ1 x0 x1 x2 x3 x4 v2 x2 v4 1)
def pL_law_1315 (c9 w9 : Nat) (k23 : St → Nat → Nat → Nat → Nat → Int32 → Prop) (σ : St) (x0 : Nat) (x1 : Nat) (x2 : Nat) (x3 : Nat) (x4 : Int32) : Prop := exB (ldI σ x0 (x4 + 1)) fun v1 => exB (ldI σ x0 (x4 + 2)) fun v2 => if v2 = 0 then (pL_law_1336 c9 w9 k23 σ x0 x1 x2 x3 x4 x1 v1 0) else (pL_law_1336 c9 w9 k23 σ x0 x1 x2 x3 x4 x1 v1 1)
def pL_law_1399 (c9 w9 : Nat) (k23 : St → Nat → Nat → Nat → Nat → Int32 → Prop) (σ : St) (x0 : Nat) (x1 : Nat) (x2 : Nat) (x3 : Nat) (x4 : Int32) : Prop := exB (ckK σ 16 x1) fun _ => exC (fX11_steps σ x1) fun σ1 v2 => exB (ckK σ1 17 x2) fun _ => exC (fX12_steps σ1 x2) fun σ4 v5 => if v2 = v5 then (pL_law_2380 c9 w9 k23 σ4 x0 x1 x2 x3 x4) else (False)
def pL_law_1465 (c9 w9 : Nat) (k23 : St → Nat → Nat → Nat → Nat → Int32 → Prop) (σ : St) (x0 : Nat) (x1 : Nat) (x2 : Nat) (x3 : Nat) (x4 : Int32) : Prop := pL_law_2380 c9 w9 k23 σ x0 x1 x2 x3 x4
def pL_law_1412 (c9 w9 : Nat) (k23 : St → Nat → Nat → Nat → Nat → Int32 → Prop) (σ : St) (x0 : Nat) (x1 : Nat) (x2 : Nat) (x3 : Nat) (x4 : Int32) : Prop := exB (ldI σ x0 (x4 + 1)) fun v1 => exW (fL_stepAt σ x1 v1 x3) fun σ2 v3 => exB (ldI σ2 x0 (x4 + 1)) fun v5 => exB (ckK σ2 17 x2) fun _ => exC (fX12_stepAt σ2 x2 v5) fun σ6 v7 => exB (ckK σ6 17 x2) fun _ => exC (fX12_thrown σ6 x2) fun σ9 v10 => if v10 = v3 then (if v3 = 0 then (exB (ldJ σ9 x3 0) fun v14 => if (lg_cmp v14 (Int32.toInt64 v7)) = 0 then (pL_law_1465 c9 w9 k23 σ9 x0 x1 x2 x3 x4) else (False)) else (pL_law_1465 c9 w9 k23 σ9 x0 x1 x2 x3 x4)) else (False)
def pL_law_1521 (c9 w9 : Nat) (k23 : St → Nat → Nat → Nat → Nat → Int32 → Prop) (σ : St) (x0 : Nat) (x1 : Nat) (x2 : Nat) (x3 : Nat) (x4 : Int32) : Prop := pL_law_2380 c9 w9 k23 σ x0 x1 x2 x3 x4
def pL_law_1468 (c9 w9 : Nat) (k23 : St → Nat → Nat → Nat → Nat → Int32 → Prop) (σ : St) (x0 : Nat) (x1 : Nat) (x2 : Nat) (x3 : Nat) (x4 : Int32) : Prop := exB (ldI σ x0 (x4 + 1)) fun v1 => exW (fL_takeStep σ x1 v1 x3) fun σ2 v3 => exB (ldI σ2 x0 (x4 + 1)) fun v5 => exB (ckK σ2 17 x2) fun _ => exC (fX12_takeStep σ2 x2 v5) fun σ6 v7 => exB (ckK σ6 17 x2) fun _ => exC (fX12_thrown σ6 x2) fun σ9 v10 => if v10 = v3 then (if v3 = 0 then (exB (ldJ σ9 x3 0) fun v14 => if (lg_cmp v14 (Int32.toInt64 v7)) = 0 then (pL_law_1521 c9 w9 k23 σ9 x0 x1 x2 x3 x4) else (False)) else (pL_law_1521 c9 w9 k23 σ9 x0 x1 x2 x3 x4)) else (False)
def pL_law_1524 (c9 w9 : Nat) (k23 : St → Nat → Nat → Nat → Nat → Int32 → Prop) (σ : St) (x0 : Nat) (x1 : Nat) (x2 : Nat) (x3 : Nat) (x4 : Int32) : Prop := exB (ckK σ 16 x1) fun _ => exC (fX11_ends σ x1) fun σ1 v2 => exB (ckK σ1 17 x2) fun _ => exC (fX12_ends σ1 x2) fun σ4 v5 => if v2 = v5 then (pL_law_2380 c9 w9 k23 σ4 x0 x1 x2 x3 x4) else (False)
def pL_law_1537 (c9 w9 : Nat) (k23 : St → Nat → Nat → Nat → Nat → Int32 → Prop) (σ : St) (x0 : Nat) (x1 : Nat) (x2 : Nat) (x3 : Nat) (x4 : Int32) : Prop := exB (ckK σ 16 x1) fun _ => exC (fX11_ahead σ x1) fun σ1 v2 => exB (ckK σ1 17 x2) fun _ => exC (fX12_ahead σ1 x2) fun σ4 v5 => if v2 = v5 then (pL_law_2380 c9 w9 k23 σ4 x0 x1 x2 x3 x4) else (False)
def pL_law_1550 (c9 w9 : Nat) (k23 : St → Nat → Nat → Nat → Nat → Int32 → Prop) (σ : St) (x0 : Nat) (x1 : Nat) (x2 : Nat) (x3 : Nat) (x4 : Int32) : Prop := exB (ckK σ 16 x1) fun _ => exC (fX11_repeating σ x1) fun σ1 v2 => exB (ckK σ1 17 x2) fun _ => exC (fX12_repeating σ1 x2) fun σ4 v5 => if v2 = v5 then (pL_law_2380 c9 w9 k23 σ4 x0 x1 x2 x3 x4) else (False)
def pL_law_1616 (c9 w9 : Nat) (k23 : St → Nat → Nat → Nat → Nat → Int32 → Prop) (σ : St) (x0 : Nat) (x1 : Nat) (x2 : Nat) (x3 : Nat) (x4 : Int32) : Prop := pL_law_2380 c9 w9 k23 σ x0 x1 x2 x3 x4
def pL_law_1563 (c9 w9 : Nat) (k23 : St → Nat → Nat → Nat → Nat → Int32 → Prop) (σ : St) (x0 : Nat) (x1 : Nat) (x2 : Nat) (x3 : Nat) (x4 : Int32) : Prop := exB (ldI σ x0 (x4 + 1)) fun v1 => exW (fL_decimal σ x1 v1 x3) fun σ2 v3 => exB (ldI σ2 x0 (x4 + 1)) fun v5 => exB (ckK σ2 17 x2) fun _ => exC (fX12_decimal σ2 x2 v5) fun σ6 v7 => exB (ckK σ6 17 x2) fun _ => exC (fX12_thrown σ6 x2) fun σ9 v10 => if v10 = v3 then (if v3 = 0 then (exB (ldJ σ9 x3 0) fun v14 => if (lg_cmp v14 (Int32.toInt64 v7)) = 0 then (pL_law_1616 c9 w9 k23 σ9 x0 x1 x2 x3 x4) else (False)) else (pL_law_1616 c9 w9 k23 σ9 x0 x1 x2 x3 x4)) else (False)
def pL_law_1619 (c9 w9 : Nat) (k23 : St → Nat → Nat → Nat → Nat → Int32 → Prop) (σ : St) (x0 : Nat) (x1 : Nat) (x2 : Nat) (x3 : Nat) (x4 : Int32) : Prop := exB (ckK σ 16 x1) fun _ => exC (fX11_continued σ x1) fun σ1 v2 => exB (ckK σ1 17 x2) fun _ => exC (fX12_continued σ1 x2) fun σ4 v5 => if v2 = v5 then (pL_law_2380 c9 w9 k23 σ4 x0 x1 x2 x3 x4) else (False)
def pL_law_1685 (c9 w9 : Nat) (k23 : St → Nat → Nat → Nat → Nat → Int32 → Prop) (σ : St) (x0 : Nat) (x1 : Nat) (x2 : Nat) (x3 : Nat) (x4 : Int32) : Prop := pL_law_2380 c9 w9 k23 σ x0 x1 x2 x3 x4
def pL_law_1632 (c9 w9 : Nat) (k23 : St → Nat → Nat → Nat → Nat → Int32 → Prop) (σ : St) (x0 : Nat) (x1 : Nat) (x2 : Nat) (x3 : Nat) (x4 : Int32) : Prop := exB (ldI σ x0 (x4 + 1)) fun v1 => exW (fL_takeContinued σ x1 v1 x3) fun σ2 v3 => exB (ldI σ2 x0 (x4 + 1)) fun v5 => exB (ckK σ2 17 x2) fun _ => exC (fX12_takeContinued σ2 x2 v5) fun σ6 v7 => exB (ckK σ6 17 x2) fun _ => exC (fX12_thrown σ6 x2) fun σ9 v10 => if v10 = v3 then (if v3 = 0 then (exB (ldJ σ9 x3 0) fun v14 => if (lg_cmp v14 (Int32.toInt64 v7)) = 0 then (pL_law_1685 c9 w9 k23 σ9 x0 x1 x2 x3 x4) else (False)) else (pL_law_1685 c9 w9 k23 σ9 x0 x1 x2 x3 x4)) else (False)
def pL_law_1741 (c9 w9 : Nat) (k23 : St → Nat → Nat → Nat → Nat → Int32 → Prop) (σ : St) (x0 : Nat) (x1 : Nat) (x2 : Nat) (x3 : Nat) (x4 : Int32) : Prop := pL_law_2380 c9 w9 k23 σ x0 x1 x2 x3 x4
def pL_law_1688 (c9 w9 : Nat) (k23 : St → Nat → Nat → Nat → Nat → Int32 → Prop) (σ : St) (x0 : Nat) (x1 : Nat) (x2 : Nat) (x3 : Nat) (x4 : Int32) : Prop := exB (ldI σ x0 (x4 + 1)) fun v1 => exW (fL_takeBest σ x1 v1 x3) fun σ2 v3 => exB (ldI σ2 x0 (x4 + 1)) fun v5 => exB (ckK σ2 17 x2) fun _ => exC (fX12_takeBest σ2 x2 v5) fun σ6 v7 => exB (ckK σ6 17 x2) fun _ => exC (fX12_thrown σ6 x2) fun σ9 v10 => if v10 = v3 then (if v3 = 0 then (exB (ldJ σ9 x3 0) fun v14 => if (lg_cmp v14 (Int32.toInt64 v7)) = 0 then (pL_law_1741 c9 w9 k23 σ9 x0 x1 x2 x3 x4) else (False)) else (pL_law_1741 c9 w9 k23 σ9 x0 x1 x2 x3 x4)) else (False)
def pL_law_1744 (c9 w9 : Nat) (k23 : St → Nat → Nat → Nat → Nat → Int32 → Prop) (σ : St) (x0 : Nat) (x1 : Nat) (x2 : Nat) (x3 : Nat) (x4 : Int32) : Prop := exB (ckK σ 16 x1) fun _ => exC (fX11_units σ x1) fun σ1 v2 => exB (ckK σ1 17 x2) fun _ => exC (fX12_units σ1 x2) fun σ4 v5 => if v2 = v5 then (pL_law_2380 c9 w9 k23 σ4 x0 x1 x2 x3 x4) else (False)
def pL_law_1810 (c9 w9 : Nat) (k23 : St → Nat → Nat → Nat → Nat → Int32 → Prop) (σ : St) (x0 : Nat) (x1 : Nat) (x2 : Nat) (x3 : Nat) (x4 : Int32) : Prop := pL_law_2380 c9 w9 k23 σ x0 x1 x2 x3 x4
def pL_law_1757 (c9 w9 : Nat) (k23 : St → Nat → Nat → Nat → Nat → Int32 → Prop) (σ : St) (x0 : Nat) (x1 : Nat) (x2 : Nat) (x3 : Nat) (x4 : Int32) : Prop := exB (ldI σ x0 (x4 + 1)) fun v1 => exW (fL_takeUnit σ x1 v1 x3) fun σ2 v3 => exB (ldI σ2 x0 (x4 + 1)) fun v5 => exB (ckK σ2 17 x2) fun _ => exC (fX12_takeUnit σ2 x2 v5) fun σ6 v7 => exB (ckK σ6 17 x2) fun _ => exC (fX12_thrown σ6 x2) fun σ9 v10 => if v10 = v3 then (if v3 = 0 then (exB (ldJ σ9 x3 0) fun v14 => if (lg_cmp v14 (Int32.toInt64 v7)) = 0 then (pL_law_1810 c9 w9 k23 σ9 x0 x1 x2 x3 x4) else (False)) else (pL_law_1810 c9 w9 k23 σ9 x0 x1 x2 x3 x4)) else (False)
def pL_law_1866 (c9 w9 : Nat) (k23 : St → Nat → Nat → Nat → Nat → Int32 → Prop) (σ : St) (x0 : Nat) (x1 : Nat) (x2 : Nat) (x3 : Nat) (x4 : Int32) : Prop := pL_law_2380 c9 w9 k23 σ x0 x1 x2 x3 x4
def pL_law_1813 (c9 w9 : Nat) (k23 : St → Nat → Nat → Nat → Nat → Int32 → Prop) (σ : St) (x0 : Nat) (x1 : Nat) (x2 : Nat) (x3 : Nat) (x4 : Int32) : Prop := exB (ldI σ x0 (x4 + 1)) fun v1 => exW (fL_put σ x1 v1 x3) fun σ2 v3 => exB (ldI σ2 x0 (x4 + 1)) fun v5 => exB (ckK σ2 17 x2) fun _ => exC (fX12_put σ2 x2 v5) fun σ6 v7 => exB (ckK σ6 17 x2) fun _ => exC (fX12_thrown σ6 x2) fun σ9 v10 => if v10 = v3 then (if v3 = 0 then (exB (ldJ σ9 x3 0) fun v14 => if (lg_cmp v14 (Int32.toInt64 v7)) = 0 then (pL_law_1866 c9 w9 k23 σ9 x0 x1 x2 x3 x4) else (False)) else (pL_law_1866 c9 w9 k23 σ9 x0 x1 x2 x3 x4)) else (False)
def pL_law_1922 (c9 w9 : Nat) (k23 : St → Nat → Nat → Nat → Nat → Int32 → Prop) (σ : St) (x0 : Nat) (x1 : Nat) (x2 : Nat) (x3 : Nat) (x4 : Int32) : Prop := pL_law_2380 c9 w9 k23 σ x0 x1 x2 x3 x4
def pL_law_1869 (c9 w9 : Nat) (k23 : St → Nat → Nat → Nat → Nat → Int32 → Prop) (σ : St) (x0 : Nat) (x1 : Nat) (x2 : Nat) (x3 : Nat) (x4 : Int32) : Prop := exB (ldI σ x0 (x4 + 1)) fun v1 => exW (fL_out σ x1 v1 x3) fun σ2 v3 => exB (ldI σ2 x0 (x4 + 1)) fun v5 => exB (ckK σ2 17 x2) fun _ => exC (fX12_out σ2 x2 v5) fun σ6 v7 => exB (ckK σ6 17 x2) fun _ => exC (fX12_thrown σ6 x2) fun σ9 v10 => if v10 = v3 then (if v3 = 0 then (exB (ldJ σ9 x3 0) fun v14 => if (lg_cmp v14 (Int32.toInt64 v7)) = 0 then (pL_law_1922 c9 w9 k23 σ9 x0 x1 x2 x3 x4) else (False)) else (pL_law_1922 c9 w9 k23 σ9 x0 x1 x2 x3 x4)) else (False)
def pL_law_1978 (c9 w9 : Nat) (k23 : St → Nat → Nat → Nat → Nat → Int32 → Prop) (σ : St) (x0 : Nat) (x1 : Nat) (x2 : Nat) (x3 : Nat) (x4 : Int32) : Prop := pL_law_2380 c9 w9 k23 σ x0 x1 x2 x3 x4
def pL_law_1925 (c9 w9 : Nat) (k23 : St → Nat → Nat → Nat → Nat → Int32 → Prop) (σ : St) (x0 : Nat) (x1 : Nat) (x2 : Nat) (x3 : Nat) (x4 : Int32) : Prop := exB (ldI σ x0 (x4 + 1)) fun v1 => exW (fL_empty σ x1 v1 x3) fun σ2 v3 => exB (ldI σ2 x0 (x4 + 1)) fun v5 => exB (ckK σ2 17 x2) fun _ => exC (fX12_empty σ2 x2 v5) fun σ6 v7 => exB (ckK σ6 17 x2) fun _ => exC (fX12_thrown σ6 x2) fun σ9 v10 => if v10 = v3 then (if v3 = 0 then (exB (ldJ σ9 x3 0) fun v14 => if (lg_cmp v14 (Int32.toInt64 v7)) = 0 then (pL_law_1978 c9 w9 k23 σ9 x0 x1 x2 x3 x4) else (False)) else (pL_law_1978 c9 w9 k23 σ9 x0 x1 x2 x3 x4)) else (False)
def pL_law_2062 (c9 w9 : Nat) (k23 : St → Nat → Nat → Nat → Nat → Int32 → Prop) (σ : St) (x0 : Nat) (x1 : Nat) (x2 : Nat) (x3 : Nat) (x4 : Int32) : Prop := pL_law_2380 c9 w9 k23 σ x0 x1 x2 x3 x4
def pL_law_2029 (c9 w9 : Nat) (k23 : St → Nat → Nat → Nat → Nat → Int32 → Prop) (σ : St) (x0 : Nat) (x1 : Nat) (x2 : Nat) (x3 : Nat) (x4 : Int32) (x5 : Int32) (y0 : Nat) (y1 : Int32) (y2 : Int32) : Prop := exB (ckK σ 17 y0) fun _ => exC (fX12_count σ y0 y1 y2) fun σ1 v2 => exB (ckK σ1 17 x2) fun _ => exC (fX12_thrown σ1 x2) fun σ4 v5 => if v5 = x5 then (if x5 = 0 then (exB (ldJ σ4 x3 0) fun v9 => if (lg_cmp v9 (Int32.toInt64 v2)) = 0 then (pL_law_2062 c9 w9 k23 σ4 x0 x1 x2 x3 x4) else (False)) else (pL_law_2062 c9 w9 k23 σ4 x0 x1 x2 x3 x4)) else (False)
def pL_law_2002 (c9 w9 : Nat) (k23 : St → Nat → Nat → Nat → Nat → Int32 → Prop) (σ : St) (x0 : Nat) (x1 : Nat) (x2 : Nat) (x3 : Nat) (x4 : Int32) (y0 : Nat) (y1 : Int32) (y2 : Int32) : Prop := exW (fL_count σ y0 y1 y2 x3) fun σ1 v2 => exB (ldI σ1 x0 (x4 + 1)) fun v4 => exB (ldI σ1 x0 (x4 + 2)) fun v5 => if v5 = 0 then (pL_law_2029 c9 w9 k23 σ1 x0 x1 x2 x3 x4 v2 x2 v4 0) else (pL_law_2029 c9 w9 k23 σ1 x0 x1 x2 x3 x4 v2 x2 v4 1)
def pL_law_1981 (c9 w9 : Nat) (k23 : St → Nat → Nat → Nat → Nat → Int32 → Prop) (σ : St) (x0 : Nat) (x1 : Nat) (x2 : Nat) (x3 : Nat) (x4 : Int32) : Prop := exB (ldI σ x0 (x4 + 1)) fun v1 => exB (ldI σ x0 (x4 + 2)) fun v2 => if v2 = 0 then (pL_law_2002 c9 w9 k23 σ x0 x1 x2 x3 x4 x1 v1 0) else (pL_law_2002 c9 w9 k23 σ x0 x1 x2 x3 x4 x1 v1 1)
def pL_law_2130 (c9 w9 : Nat) (k23 : St → Nat → Nat → Nat → Nat → Int32 → Prop) (σ : St) (x0 : Nat) (x1 : Nat) (x2 : Nat) (x3 : Nat) (x4 : Int32) : Prop := pL_law_2380 c9 w9 k23 σ x0 x1 x2 x3 x4
def pL_law_2065 (c9 w9 : Nat) (k23 : St → Nat → Nat → Nat → Nat → Int32 → Prop) (σ : St) (x0 : Nat) (x1 : Nat) (x2 : Nat) (x3 : Nat) (x4 : Int32) : Prop := exB (ldI σ x0 (x4 + 1)) fun v1 => exB (ldI σ x0 (x4 + 2)) fun v2 => exW (fL_takeLeast σ x1 v1 v2 x3) fun σ3 v4 => exB (ldI σ3 x0 (x4 + 1)) fun v6 => exB (ldI σ3 x0 (x4 + 2)) fun v7 => exB (ckK σ3 17 x2) fun _ => exC (fX12_takeLeast σ3 x2 v6 v7) fun σ8 v9 => exB (ckK σ8 17 x2) fun _ => exC (fX12_thrown σ8 x2) fun σ11 v12 => if v12 = v4 then (if v4 = 0 then (exB (ldJ σ11 x3 0) fun v16 => if (lg_cmp v16 (Int32.toInt64 v9)) = 0 then (pL_law_2130 c9 w9 k23 σ11 x0 x1 x2 x3 x4) else (False)) else (pL_law_2130 c9 w9 k23 σ11 x0 x1 x2 x3 x4)) else (False)
def pL_law_2186 (c9 w9 : Nat) (k23 : St → Nat → Nat → Nat → Nat → Int32 → Prop) (σ : St) (x0 : Nat) (x1 : Nat) (x2 : Nat) (x3 : Nat) (x4 : Int32) : Prop := pL_law_2380 c9 w9 k23 σ x0 x1 x2 x3 x4
def pL_law_2133 (c9 w9 : Nat) (k23 : St → Nat → Nat → Nat → Nat → Int32 → Prop) (σ : St) (x0 : Nat) (x1 : Nat) (x2 : Nat) (x3 : Nat) (x4 : Int32) : Prop := exB (ldI σ x0 (x4 + 1)) fun v1 => exW (fL_takeNext σ x1 v1 x3) fun σ2 v3 => exB (ldI σ2 x0 (x4 + 1)) fun v5 => exB (ckK σ2 17 x2) fun _ => exC (fX12_takeNext σ2 x2 v5) fun σ6 v7 => exB (ckK σ6 17 x2) fun _ => exC (fX12_thrown σ6 x2) fun σ9 v10 => if v10 = v3 then (if v3 = 0 then (exB (ldJ σ9 x3 0) fun v14 => if (lg_cmp v14 (Int32.toInt64 v7)) = 0 then (pL_law_2186 c9 w9 k23 σ9 x0 x1 x2 x3 x4) else (False)) else (pL_law_2186 c9 w9 k23 σ9 x0 x1 x2 x3 x4)) else (False)
def pL_law_2254 (c9 w9 : Nat) (k23 : St → Nat → Nat → Nat → Nat → Int32 → Prop) (σ : St) (x0 : Nat) (x1 : Nat) (x2 : Nat) (x3 : Nat) (x4 : Int32) : Prop := pL_law_2380 c9 w9 k23 σ x0 x1 x2 x3 x4
def pL_law_2189 (c9 w9 : Nat) (k23 : St → Nat → Nat → Nat → Nat → Int32 → Prop) (σ : St) (x0 : Nat) (x1 : Nat) (x2 : Nat) (x3 : Nat) (x4 : Int32) : Prop := exB (ldI σ x0 (x4 + 1)) fun v1 => exB (ldI σ x0 (x4 + 2)) fun v2 => exW (fL_takeAll σ x1 v1 v2 x3) fun σ3 v4 => exB (ldI σ3 x0 (x4 + 1)) fun v6 => exB (ldI σ3 x0 (x4 + 2)) fun v7 => exB (ckK σ3 17 x2) fun _ => exC (fX12_takeAll σ3 x2 v6 v7) fun σ8 v9 => exB (ckK σ8 17 x2) fun _ => exC (fX12_thrown σ8 x2) fun σ11 v12 => if v12 = v4 then (if v4 = 0 then (exB (ldJ σ11 x3 0) fun v16 => if (lg_cmp v16 (Int32.toInt64 v9)) = 0 then (pL_law_2254 c9 w9 k23 σ11 x0 x1 x2 x3 x4) else (False)) else (pL_law_2254 c9 w9 k23 σ11 x0 x1 x2 x3 x4)) else (False)
def pL_law_2257 (c9 w9 : Nat) (k23 : St → Nat → Nat → Nat → Nat → Int32 → Prop) (σ : St) (x0 : Nat) (x1 : Nat) (x2 : Nat) (x3 : Nat) (x4 : Int32) : Prop := exB (ckK σ 16 x1) fun _ => exC (fX11_undo σ x1) fun σ1 v2 => exB (ckK σ1 17 x2) fun _ => exC (fX12_undo σ1 x2) fun σ4 v5 => if v2 = v5 then (pL_law_2380 c9 w9 k23 σ4 x0 x1 x2 x3 x4) else (False)
def pL_law_2270 (c9 w9 : Nat) (k23 : St → Nat → Nat → Nat → Nat → Int32 → Prop) (σ : St) (x0 : Nat) (x1 : Nat) (x2 : Nat) (x3 : Nat) (x4 : Int32) : Prop := exB (ckK σ 16 x1) fun _ => exC (fX11_redo σ x1) fun σ1 v2 => exB (ckK σ1 17 x2) fun _ => exC (fX12_redo σ1 x2) fun σ4 v5 => if v2 = v5 then (pL_law_2380 c9 w9 k23 σ4 x0 x1 x2 x3 x4) else (False)
def pL_law_2321 (c9 w9 : Nat) (k23 : St → Nat → Nat → Nat → Nat → Int32 → Prop) (σ : St) (x0 : Nat) (x1 : Nat) (x2 : Nat) (x3 : Nat) (x4 : Int32) : Prop := pL_law_2380 c9 w9 k23 σ x0 x1 x2 x3 x4
def pL_law_2283 (c9 w9 : Nat) (k23 : St → Nat → Nat → Nat → Nat → Int32 → Prop) (σ : St) (x0 : Nat) (x1 : Nat) (x2 : Nat) (x3 : Nat) (x4 : Int32) : Prop := exB (ckK σ 16 x1) fun _ => exC (fX11_meanDigits σ x1) fun σ1 v2 => exB (ckK σ1 17 x2) fun _ => exC (fX12_meanDigits σ1 x2) fun σ4 v5 => if (Op.cmpValue (FP.dcmp v2 v5) .l) = 0 then (pL_law_2321 c9 w9 k23 σ4 x0 x1 x2 x3 x4) else (if (Op.cmpValue (FP.dcmp v2 v2) .l) = 0 then (False) else (if (Op.cmpValue (FP.dcmp v5 v5) .l) = 0 then (False) else (pL_law_2321 c9 w9 k23 σ4 x0 x1 x2 x3 x4)))
def pL_law_2364 (c9 w9 : Nat) (k23 : St → Nat → Nat → Nat → Nat → Int32 → Prop) (σ : St) (x0 : Nat) (x1 : Nat) (x2 : Nat) (x3 : Nat) (x4 : Int32) : Prop := pL_law_2380 c9 w9 k23 σ x0 x1 x2 x3 x4
def pL_law_2324 (c9 w9 : Nat) (k23 : St → Nat → Nat → Nat → Nat → Int32 → Prop) (σ : St) (x0 : Nat) (x1 : Nat) (x2 : Nat) (x3 : Nat) (x4 : Int32) : Prop := exB (ckK σ 16 x1) fun _ => exC (fX11_wholes σ x1) fun σ1 v2 => exB (ckND (FP.f2d v2)) fun _ => nm (FP.f2d v2) fun v5 => exB (ckK σ1 17 x2) fun _ => exC (fX12_wholes σ1 x2) fun σ6 v7 => exB (ckND (FP.f2d v7)) fun _ => nm (FP.f2d v7) fun v10 => if (Op.cmpValue (FP.dcmp v5 v10) .l) = 0 then (pL_law_2364 c9 w9 k23 σ6 x0 x1 x2 x3 x4) else (if (Op.cmpValue (FP.dcmp v5 v5) .l) = 0 then (False) else (if (Op.cmpValue (FP.dcmp v10 v10) .l) = 0 then (False) else (pL_law_2364 c9 w9 k23 σ6 x0 x1 x2 x3 x4)))
def pL_law_2367 (c9 w9 : Nat) (k23 : St → Nat → Nat → Nat → Nat → Int32 → Prop) (σ : St) (x0 : Nat) (x1 : Nat) (x2 : Nat) (x3 : Nat) (x4 : Int32) : Prop := exB (ckK σ 16 x1) fun _ => exC (fX11_errors σ x1) fun σ1 v2 => exB (ckK σ1 17 x2) fun _ => exC (fX12_errors σ1 x2) fun σ4 v5 => if v2 = v5 then (pL_law_2380 c9 w9 k23 σ4 x0 x1 x2 x3 x4) else (False)
def pL_law_23 (c9 w9 : Nat) : Nat → St → Nat → Nat → Nat → Nat → Int32 → Prop
  | 0, _, _, _, _, _, _ => False
  | n + 1, σ, x0, x1, x2, x3, x4 => exB (aln σ x0) fun v1 => if (v1 - 6) < x4 then (Lend c9 w9 σ) else (exB (ldI σ x0 x4) fun v3 => nm (v3 &&& 63) fun v4 => if v4 = 0 then (pL_law_248 c9 w9 (pL_law_23 c9 w9 n) σ x0 x1 x2 x3 x4) else (if v4 = 1 then (pL_law_352 c9 w9 (pL_law_23 c9 w9 n) σ x0 x1 x2 x3 x4) else (if v4 = 2 then (pL_law_365 c9 w9 (pL_law_23 c9 w9 n) σ x0 x1 x2 x3 x4) else (if v4 = 3 then (pL_law_409 c9 w9 (pL_law_23 c9 w9 n) σ x0 x1 x2 x3 x4) else (if v4 = 4 then (pL_law_422 c9 w9 (pL_law_23 c9 w9 n) σ x0 x1 x2 x3 x4) else (if v4 = 5 then (pL_law_478 c9 w9 (pL_law_23 c9 w9 n) σ x0 x1 x2 x3 x4) else (if v4 = 6 then (pL_law_491 c9 w9 (pL_law_23 c9 w9 n) σ x0 x1 x2 x3 x4) else (if v4 = 7 then (pL_law_504 c9 w9 (pL_law_23 c9 w9 n) σ x0 x1 x2 x3 x4) else (if v4 = 8 then (pL_law_560 c9 w9 (pL_law_23 c9 w9 n) σ x0 x1 x2 x3 x4) else (if v4 = 9 then (pL_law_573 c9 w9 (pL_law_23 c9 w9 n) σ x0 x1 x2 x3 x4) else (if v4 = 10 then (pL_law_614 c9 w9 (pL_law_23 c9 w9 n) σ x0 x1 x2 x3 x4) else (if v4 = 11 then (pL_law_698 c9 w9 (pL_law_23 c9 w9 n) σ x0 x1 x2 x3 x4) else (if v4 = 12 then (pL_law_739 c9 w9 (pL_law_23 c9 w9 n) σ x0 x1 x2 x3 x4) else (if v4 = 13 then (pL_law_795 c9 w9 (pL_law_23 c9 w9 n) σ x0 x1 x2 x3 x4) else (if v4 = 14 then (pL_law_851 c9 w9 (pL_law_23 c9 w9 n) σ x0 x1 x2 x3 x4) else (if v4 = 15 then (pL_law_907 c9 w9 (pL_law_23 c9 w9 n) σ x0 x1 x2 x3 x4) else (if v4 = 16 then (pL_law_975 c9 w9 (pL_law_23 c9 w9 n) σ x0 x1 x2 x3 x4) else (if v4 = 17 then (pL_law_988 c9 w9 (pL_law_23 c9 w9 n) σ x0 x1 x2 x3 x4) else (if v4 = 18 then (pL_law_1044 c9 w9 (pL_law_23 c9 w9 n) σ x0 x1 x2 x3 x4) else (if v4 = 19 then (pL_law_1100 c9 w9 (pL_law_23 c9 w9 n) σ x0 x1 x2 x3 x4) else (if v4 = 20 then (pL_law_1113 c9 w9 (pL_law_23 c9 w9 n) σ x0 x1 x2 x3 x4) else (if v4 = 21 then (pL_law_1169 c9 w9 (pL_law_23 c9 w9 n) σ x0 x1 x2 x3 x4) else (if v4 = 22 then (pL_law_1262 c9 w9 (pL_law_23 c9 w9 n) σ x0 x1 x2 x3 x4) else (if v4 = 23 then (pL_law_1315 c9 w9 (pL_law_23 c9 w9 n) σ x0 x1 x2 x3 x4) else (if v4 = 24 then (pL_law_1399 c9 w9 (pL_law_23 c9 w9 n) σ x0 x1 x2 x3 x4) else (if v4 = 25 then (pL_law_1412 c9 w9 (pL_law_23 c9 w9 n) σ x0 x1 x2 x3 x4) else (if v4 = 26 then (pL_law_1468 c9 w9 (pL_law_23 c9 w9 n) σ x0 x1 x2 x3 x4) else (if v4 = 27 then (pL_law_1524 c9 w9 (pL_law_23 c9 w9 n) σ x0 x1 x2 x3 x4) else (if v4 = 28 then (pL_law_1537 c9 w9 (pL_law_23 c9 w9 n) σ x0 x1 x2 x3 x4) else (if v4 = 29 then (pL_law_1550 c9 w9 (pL_law_23 c9 w9 n) σ x0 x1 x2 x3 x4) else (if v4 = 30 then (pL_law_1563 c9 w9 (pL_law_23 c9 w9 n) σ x0 x1 x2 x3 x4) else (if v4 = 31 then (pL_law_1619 c9 w9 (pL_law_23 c9 w9 n) σ x0 x1 x2 x3 x4) else (if v4 = 32 then (pL_law_1632 c9 w9 (pL_law_23 c9 w9 n) σ x0 x1 x2 x3 x4) else (if v4 = 33 then (pL_law_1688 c9 w9 (pL_law_23 c9 w9 n) σ x0 x1 x2 x3 x4) else (if v4 = 34 then (pL_law_1744 c9 w9 (pL_law_23 c9 w9 n) σ x0 x1 x2 x3 x4) else (if v4 = 35 then (pL_law_1757 c9 w9 (pL_law_23 c9 w9 n) σ x0 x1 x2 x3 x4) else (if v4 = 36 then (pL_law_1813 c9 w9 (pL_law_23 c9 w9 n) σ x0 x1 x2 x3 x4) else (if v4 = 37 then (pL_law_1869 c9 w9 (pL_law_23 c9 w9 n) σ x0 x1 x2 x3 x4) else (if v4 = 38 then (pL_law_1925 c9 w9 (pL_law_23 c9 w9 n) σ x0 x1 x2 x3 x4) else (if v4 = 39 then (pL_law_1981 c9 w9 (pL_law_23 c9 w9 n) σ x0 x1 x2 x3 x4) else (if v4 = 40 then (pL_law_2065 c9 w9 (pL_law_23 c9 w9 n) σ x0 x1 x2 x3 x4) else (if v4 = 41 then (pL_law_2133 c9 w9 (pL_law_23 c9 w9 n) σ x0 x1 x2 x3 x4) else (if v4 = 42 then (pL_law_2189 c9 w9 (pL_law_23 c9 w9 n) σ x0 x1 x2 x3 x4) else (if v4 = 43 then (pL_law_2257 c9 w9 (pL_law_23 c9 w9 n) σ x0 x1 x2 x3 x4) else (if v4 = 44 then (pL_law_2270 c9 w9 (pL_law_23 c9 w9 n) σ x0 x1 x2 x3 x4) else (if v4 = 45 then (pL_law_2283 c9 w9 (pL_law_23 c9 w9 n) σ x0 x1 x2 x3 x4) else (if v4 = 46 then (pL_law_2324 c9 w9 (pL_law_23 c9 w9 n) σ x0 x1 x2 x3 x4) else (if v4 = 47 then (pL_law_2367 c9 w9 (pL_law_23 c9 w9 n) σ x0 x1 x2 x3 x4) else (pL_law_2380 c9 w9 (pL_law_23 c9 w9 n) σ x0 x1 x2 x3 x4)))))))))))))))))))))))))))))))))))))))))))))))))
def pL_law (c9 w9 : Nat) (σ : St) (x0 : Nat) : Prop := nm (nw 16 0 19 σ) fun σ1 => nm (sz σ) fun a2 => exB (ckK σ1 16 a2) fun _ => exC (fX11_init σ1 a2) fun σ3 v4 => nm (nw 17 0 83 σ3) fun σ6 => nm (sz σ3) fun a7 => exB (ckK σ6 17 a7) fun _ => exC (fX12_init σ6 a7) fun σ8 v9 => exB (nwA 3 1 σ8) fun σ11 => nm (sz σ8) fun a12 => pL_law_23 c9 w9 FU σ11 x0 a2 a7 a12 0
set_option maxRecDepth 100000 in
set_option maxHeartbeats 4000000 in
theorem bL_law_2380 {X : Xt} {b c9 w9 : Nat} {tab : List ExceptionTableEntry} (hL : LH X b tab c9 w9) {k23 : St → Nat → Nat → Nat → Nat → Int32 → Prop} (hk23 : ∀ (σ : St) (x0 : Nat) (x1 : Nat) (x2 : Nat) (x3 : Nat) (x4 : Int32), k23 σ x0 x1 x2 x3 x4 → G MtL_law X σ 23 [(0, rv x0), (1, rv x1), (2, rv x2), (3, rv x3), (4, .int x4)] []) {σ : St} {x0 : Nat} {x1 : Nat} {x2 : Nat} {x3 : Nat} {x4 : Int32} (hf : pL_law_2380 c9 w9 k23 σ x0 x1 x2 x3 x4) : G MtL_law X σ 2380 [(0, rv x0), (1, rv x1), (2, rv x2), (3, rv x3), (4, .int x4)] [] := by
  unfold pL_law_2380 at hf
  obtain ⟨v1, ev1, hf⟩ := nm_elP hf
  refine g_iinc (L' := [(4, .int v1), (0, rv x0), (1, rv x1), (2, rv x2), (3, rv x3)]) (j := 4) (v := v1) dL_law_2380 rfl (by rw [ev1]; rfl) (Nat.le_of_ble_eq_true rfl) (by simp [rv_cat]) ?_
  refine g_goto (tgt := 23) dL_law_2383 (by decide) ?_
  refine g_sub (L' := [(0, rv x0), (1, rv x1), (2, rv x2), (3, rv x3), (4, .int v1)]) [1, 2, 3, 4, 0] rfl ?_
  exact hk23 _ _ _ _ _ _ hf

set_option maxRecDepth 100000 in
set_option maxHeartbeats 4000000 in
theorem bL_law_349 {X : Xt} {b c9 w9 : Nat} {tab : List ExceptionTableEntry} (hL : LH X b tab c9 w9) {k23 : St → Nat → Nat → Nat → Nat → Int32 → Prop} (hk23 : ∀ (σ : St) (x0 : Nat) (x1 : Nat) (x2 : Nat) (x3 : Nat) (x4 : Int32), k23 σ x0 x1 x2 x3 x4 → G MtL_law X σ 23 [(0, rv x0), (1, rv x1), (2, rv x2), (3, rv x3), (4, .int x4)] []) {σ : St} {x0 : Nat} {x1 : Nat} {x2 : Nat} {x3 : Nat} {x4 : Int32} (hf : pL_law_349 c9 w9 k23 σ x0 x1 x2 x3 x4) : G MtL_law X σ 349 [(0, rv x0), (1, rv x1), (2, rv x2), (3, rv x3), (4, .int x4)] [] := by
  unfold pL_law_349 at hf
  refine g_goto (tgt := 2380) dL_law_349 (by decide) ?_
  exact bL_law_2380 hL hk23 hf

set_option maxRecDepth 100000 in
set_option maxHeartbeats 4000000 in
theorem bL_law_248 {X : Xt} {b c9 w9 : Nat} {tab : List ExceptionTableEntry} (hL : LH X b tab c9 w9) {k23 : St → Nat → Nat → Nat → Nat → Int32 → Prop} (hk23 : ∀ (σ : St) (x0 : Nat) (x1 : Nat) (x2 : Nat) (x3 : Nat) (x4 : Int32), k23 σ x0 x1 x2 x3 x4 → G MtL_law X σ 23 [(0, rv x0), (1, rv x1), (2, rv x2), (3, rv x3), (4, .int x4)] []) {σ : St} {x0 : Nat} {x1 : Nat} {x2 : Nat} {x3 : Nat} {x4 : Int32} (hf : pL_law_248 c9 w9 k23 σ x0 x1 x2 x3 x4) : G MtL_law X σ 248 [(0, rv x0), (1, rv x1), (2, rv x2), (3, rv x3), (4, .int x4)] [] := by
  unfold pL_law_248 at hf
  refine g_aload_n (j := 1) dL_law_248 rfl rfl ?_
  refine g_aload_n (j := 0) dL_law_249 rfl rfl ?_
  refine g_iload (j := 4) dL_law_250 rfl ?_
  refine g_iconst (v := 1) dL_law_252 (by decide) ?_
  refine g_iadd dL_law_253 ?_
  obtain ⟨v1, ev1, hf⟩ := hf
  refine g_iald dL_law_254 ev1 ?_
  refine g_aload_n (j := 0) dL_law_255 rfl rfl ?_
  refine g_iload (j := 4) dL_law_256 rfl ?_
  refine g_iconst (v := 2) dL_law_258 (by decide) ?_
  refine g_iadd dL_law_259 ?_
  obtain ⟨v2, ev2, hf⟩ := hf
  refine g_iald dL_law_260 ev2 ?_
  refine g_aload_n (j := 0) dL_law_261 rfl rfl ?_
  refine g_iload (j := 4) dL_law_262 rfl ?_
  refine g_iconst (v := 3) dL_law_264 (by decide) ?_
  refine g_iadd dL_law_265 ?_
  obtain ⟨v3, ev3, hf⟩ := hf
  refine g_iald dL_law_266 ev3 ?_
  refine g_aload_n (j := 0) dL_law_267 rfl rfl ?_
  refine g_iload (j := 4) dL_law_268 rfl ?_
  refine g_iconst (v := 4) dL_law_270 (by decide) ?_
  refine g_iadd dL_law_271 ?_
  obtain ⟨v4, ev4, hf⟩ := hf
  refine g_iald dL_law_272 ev4 ?_
  refine g_aload_n (j := 0) dL_law_273 rfl rfl ?_
  refine g_iload (j := 4) dL_law_274 rfl ?_
  refine g_iconst (v := 5) dL_law_276 (by decide) ?_
  refine g_iadd dL_law_277 ?_
  obtain ⟨v5, ev5, hf⟩ := hf
  refine g_iald dL_law_278 ev5 ?_
  refine g_aload_n (j := 3) dL_law_279 rfl rfl ?_
  obtain ⟨σ6, v7, eσ6, hf⟩ := hf
  refine g_callW (n := 7) dL_law_280 (wL_append _ hL.1 eσ6) ⟨t_1255, by decide, by decide, ⟨by decide, by decide⟩, by decide +kernel, t_0⟩ t_1253 t_1254 rfl (Nat.le_trans (cat_le _) (Nat.le_of_ble_eq_true rfl)) rfl (fun z8 hz8 => ?_)
  replace hf := hf z8 hz8
  refine g_istore (i := 5) (L' := [(5, .int v7), (0, rv x0), (1, rv x1), (2, rv x2), (3, rv x3), (4, .int x4)]) dL_law_283 (Nat.le_of_ble_eq_true rfl) rfl ?_
  refine g_aload_n (j := 3) dL_law_285 rfl rfl ?_
  refine g_aload_n (j := 1) dL_law_286 rfl rfl ?_
  refine g_iload (j := 5) dL_law_287 rfl ?_
  refine g_iconst (v := 1) dL_law_289 (by decide) ?_
  refine g_iadd dL_law_290 ?_
  obtain ⟨v9, ev9, hf⟩ := hf
  refine g_iald dL_law_291 ev9 ?_
  refine g_aload_n (j := 1) dL_law_292 rfl rfl ?_
  refine g_iload (j := 5) dL_law_293 rfl ?_
  refine g_iconst (v := 2) dL_law_295 (by decide) ?_
  refine g_iadd dL_law_296 ?_
  obtain ⟨v10, ev10, hf⟩ := hf
  refine g_iald dL_law_297 ev10 ?_
  refine g_aload_n (j := 1) dL_law_298 rfl rfl ?_
  refine g_iload (j := 5) dL_law_299 rfl ?_
  refine g_iconst (v := 3) dL_law_301 (by decide) ?_
  refine g_iadd dL_law_302 ?_
  obtain ⟨v11, ev11, hf⟩ := hf
  refine g_iald dL_law_303 ev11 ?_
  refine g_aload_n (j := 1) dL_law_304 rfl rfl ?_
  refine g_iload (j := 5) dL_law_305 rfl ?_
  refine g_iconst (v := 4) dL_law_307 (by decide) ?_
  refine g_iadd dL_law_308 ?_
  obtain ⟨v12, ev12, hf⟩ := hf
  refine g_iald dL_law_309 ev12 ?_
  refine g_aload_n (j := 1) dL_law_310 rfl rfl ?_
  refine g_iload (j := 5) dL_law_311 rfl ?_
  refine g_iconst (v := 5) dL_law_313 (by decide) ?_
  refine g_iadd dL_law_314 ?_
  obtain ⟨v13, ev13, hf⟩ := hf
  refine g_iald dL_law_315 ev13 ?_
  obtain ⟨_, h16, hf⟩ := hf
  obtain ⟨σ14, v15, eσ14, hf⟩ := hf
  refine g_callV_i dL_law_316 (wX12_append _ eσ14) (okX12_append _ (by decide) (by decide)) (ckK_el h16) hc16 t_2218 t_2219 t_2220 rfl (Nat.le_trans (cat_le _) (Nat.le_of_ble_eq_true rfl)) rfl ?_
  refine g_istore (i := 6) (L' := [(6, .int v15), (5, .int v7), (0, rv x0), (1, rv x1), (2, rv x2), (3, rv x3), (4, .int x4)]) dL_law_319 (Nat.le_of_ble_eq_true rfl) rfl ?_
  refine g_aload_n (j := 4) dL_law_321 rfl rfl ?_
  obtain ⟨_, h19, hf⟩ := hf
  obtain ⟨σ17, v18, eσ17, hf⟩ := hf
  refine g_callV_i dL_law_322 (wX12_thrown _ eσ17) (okX12_thrown _ (by decide) (by decide)) (ckK_el h19) hc16 t_1892 t_1893 t_1894 rfl (Nat.le_trans (cat_le _) (Nat.le_of_ble_eq_true rfl)) rfl ?_
  refine g_iload (j := 1) dL_law_325 rfl ?_
  refine g_icmp_eq (tgt := 332) dL_law_327 (by decide) (fun c20 => ?_) (fun c20 => ?_)
  · rw [if_pos c20] at hf
    refine g_iload (j := 1) dL_law_332 rfl ?_
    refine g_if_ne (tgt := 349) dL_law_334 (by decide) (fun c21 => ?_) (fun c21 => ?_)
    · rw [if_neg c21] at hf
      refine g_sub (L' := [(0, rv x0), (1, rv x1), (2, rv x2), (3, rv x3), (4, .int x4)]) [2, 3, 4, 5, 6] rfl ?_
      exact bL_law_349 hL hk23 hf
    · rw [if_pos c21] at hf
      refine g_aload_n (j := 5) dL_law_337 rfl rfl ?_
      refine g_iconst (v := 0) dL_law_338 (by decide) ?_
      obtain ⟨v22, ev22, hf⟩ := hf
      refine g_jld dL_law_339 ev22 ?_
      refine g_iload (j := 0) dL_law_340 rfl ?_
      refine g_i2l dL_law_342 rfl ?_
      refine g_lcmp dL_law_343 ?_
      refine g_if_eq (tgt := 349) dL_law_344 (by decide) (fun c23 => ?_) (fun c23 => ?_)
      · rw [if_pos c23] at hf
        refine g_sub (L' := [(0, rv x0), (1, rv x1), (2, rv x2), (3, rv x3), (4, .int x4)]) [2, 3, 4, 5, 6] rfl ?_
        exact bL_law_349 hL hk23 hf
      · rw [if_neg c23] at hf
        refine g_iconst (v := 0) dL_law_347 (by decide) ?_
        exact hf.elim
  · rw [if_neg c20] at hf
    refine g_iconst (v := 0) dL_law_330 (by decide) ?_
    exact hf.elim

set_option maxRecDepth 100000 in
set_option maxHeartbeats 4000000 in
theorem bL_law_352 {X : Xt} {b c9 w9 : Nat} {tab : List ExceptionTableEntry} (hL : LH X b tab c9 w9) {k23 : St → Nat → Nat → Nat → Nat → Int32 → Prop} (hk23 : ∀ (σ : St) (x0 : Nat) (x1 : Nat) (x2 : Nat) (x3 : Nat) (x4 : Int32), k23 σ x0 x1 x2 x3 x4 → G MtL_law X σ 23 [(0, rv x0), (1, rv x1), (2, rv x2), (3, rv x3), (4, .int x4)] []) {σ : St} {x0 : Nat} {x1 : Nat} {x2 : Nat} {x3 : Nat} {x4 : Int32} (hf : pL_law_352 c9 w9 k23 σ x0 x1 x2 x3 x4) : G MtL_law X σ 352 [(0, rv x0), (1, rv x1), (2, rv x2), (3, rv x3), (4, .int x4)] [] := by
  unfold pL_law_352 at hf
  refine g_aload_n (j := 1) dL_law_352 rfl rfl ?_
  obtain ⟨_, h3, hf⟩ := hf
  obtain ⟨σ1, v2, eσ1, hf⟩ := hf
  refine g_callV_i dL_law_353 (wX11_clearTape _ eσ1) (okX11_clearTape _ (by decide) (by decide)) (ckK_el h3) hc15 t_433 t_434 t_435 rfl (Nat.le_trans (cat_le _) (Nat.le_of_ble_eq_true rfl)) rfl ?_
  refine g_aload_n (j := 2) dL_law_356 rfl rfl ?_
  obtain ⟨_, h6, hf⟩ := hf
  obtain ⟨σ4, v5, eσ4, hf⟩ := hf
  refine g_callV_i dL_law_357 (wX12_clearTape _ eσ4) (okX12_clearTape _ (by decide) (by decide)) (ckK_el h6) hc16 t_2233 t_2234 t_2235 rfl (Nat.le_trans (cat_le _) (Nat.le_of_ble_eq_true rfl)) rfl ?_
  refine g_icmp_eq (tgt := 2380) dL_law_360 (by decide) (fun c7 => ?_) (fun c7 => ?_)
  · rw [if_pos c7] at hf
    exact bL_law_2380 hL hk23 hf
  · rw [if_neg c7] at hf
    refine g_iconst (v := 0) dL_law_363 (by decide) ?_
    exact hf.elim

set_option maxRecDepth 100000 in
set_option maxHeartbeats 4000000 in
theorem bL_law_406 {X : Xt} {b c9 w9 : Nat} {tab : List ExceptionTableEntry} (hL : LH X b tab c9 w9) {k23 : St → Nat → Nat → Nat → Nat → Int32 → Prop} (hk23 : ∀ (σ : St) (x0 : Nat) (x1 : Nat) (x2 : Nat) (x3 : Nat) (x4 : Int32), k23 σ x0 x1 x2 x3 x4 → G MtL_law X σ 23 [(0, rv x0), (1, rv x1), (2, rv x2), (3, rv x3), (4, .int x4)] []) {σ : St} {x0 : Nat} {x1 : Nat} {x2 : Nat} {x3 : Nat} {x4 : Int32} (hf : pL_law_406 c9 w9 k23 σ x0 x1 x2 x3 x4) : G MtL_law X σ 406 [(0, rv x0), (1, rv x1), (2, rv x2), (3, rv x3), (4, .int x4)] [] := by
  unfold pL_law_406 at hf
  refine g_goto (tgt := 2380) dL_law_406 (by decide) ?_
  exact bL_law_2380 hL hk23 hf

set_option maxRecDepth 100000 in
set_option maxHeartbeats 4000000 in
theorem bL_law_365 {X : Xt} {b c9 w9 : Nat} {tab : List ExceptionTableEntry} (hL : LH X b tab c9 w9) {k23 : St → Nat → Nat → Nat → Nat → Int32 → Prop} (hk23 : ∀ (σ : St) (x0 : Nat) (x1 : Nat) (x2 : Nat) (x3 : Nat) (x4 : Int32), k23 σ x0 x1 x2 x3 x4 → G MtL_law X σ 23 [(0, rv x0), (1, rv x1), (2, rv x2), (3, rv x3), (4, .int x4)] []) {σ : St} {x0 : Nat} {x1 : Nat} {x2 : Nat} {x3 : Nat} {x4 : Int32} (hf : pL_law_365 c9 w9 k23 σ x0 x1 x2 x3 x4) : G MtL_law X σ 365 [(0, rv x0), (1, rv x1), (2, rv x2), (3, rv x3), (4, .int x4)] [] := by
  unfold pL_law_365 at hf
  refine g_aload_n (j := 1) dL_law_365 rfl rfl ?_
  refine g_aload_n (j := 3) dL_law_366 rfl rfl ?_
  obtain ⟨σ1, v2, eσ1, hf⟩ := hf
  refine g_callW (n := 2) dL_law_367 (wL_run _ hL.1 eσ1) ⟨t_1291, by decide, by decide, ⟨by decide, by decide⟩, by decide +kernel, t_0⟩ t_1289 t_1290 rfl (Nat.le_trans (cat_le _) (Nat.le_of_ble_eq_true rfl)) rfl (fun z3 hz3 => ?_)
  replace hf := hf z3 hz3
  refine g_istore (i := 5) (L' := [(5, .int v2), (0, rv x0), (1, rv x1), (2, rv x2), (3, rv x3), (4, .int x4)]) dL_law_370 (Nat.le_of_ble_eq_true rfl) rfl ?_
  refine g_aload_n (j := 3) dL_law_372 rfl rfl ?_
  obtain ⟨_, h6, hf⟩ := hf
  obtain ⟨σ4, v5, eσ4, hf⟩ := hf
  refine g_callV_i dL_law_373 (wX12_run _ eσ4) (okX12_run _ (by decide) (by decide)) (ckK_el h6) hc16 t_2237 t_2238 t_2239 rfl (Nat.le_trans (cat_le _) (Nat.le_of_ble_eq_true rfl)) rfl ?_
  refine g_istore (i := 6) (L' := [(6, .int v5), (5, .int v2), (0, rv x0), (1, rv x1), (2, rv x2), (3, rv x3), (4, .int x4)]) dL_law_376 (Nat.le_of_ble_eq_true rfl) rfl ?_
  refine g_aload_n (j := 4) dL_law_378 rfl rfl ?_
  obtain ⟨_, h9, hf⟩ := hf
  obtain ⟨σ7, v8, eσ7, hf⟩ := hf
  refine g_callV_i dL_law_379 (wX12_thrown _ eσ7) (okX12_thrown _ (by decide) (by decide)) (ckK_el h9) hc16 t_1892 t_1893 t_1894 rfl (Nat.le_trans (cat_le _) (Nat.le_of_ble_eq_true rfl)) rfl ?_
  refine g_iload (j := 1) dL_law_382 rfl ?_
  refine g_icmp_eq (tgt := 389) dL_law_384 (by decide) (fun c10 => ?_) (fun c10 => ?_)
  · rw [if_pos c10] at hf
    refine g_iload (j := 1) dL_law_389 rfl ?_
    refine g_if_ne (tgt := 406) dL_law_391 (by decide) (fun c11 => ?_) (fun c11 => ?_)
    · rw [if_neg c11] at hf
      refine g_sub (L' := [(0, rv x0), (1, rv x1), (2, rv x2), (3, rv x3), (4, .int x4)]) [2, 3, 4, 5, 6] rfl ?_
      exact bL_law_406 hL hk23 hf
    · rw [if_pos c11] at hf
      refine g_aload_n (j := 5) dL_law_394 rfl rfl ?_
      refine g_iconst (v := 0) dL_law_395 (by decide) ?_
      obtain ⟨v12, ev12, hf⟩ := hf
      refine g_jld dL_law_396 ev12 ?_
      refine g_iload (j := 0) dL_law_397 rfl ?_
      refine g_i2l dL_law_399 rfl ?_
      refine g_lcmp dL_law_400 ?_
      refine g_if_eq (tgt := 406) dL_law_401 (by decide) (fun c13 => ?_) (fun c13 => ?_)
      · rw [if_pos c13] at hf
        refine g_sub (L' := [(0, rv x0), (1, rv x1), (2, rv x2), (3, rv x3), (4, .int x4)]) [2, 3, 4, 5, 6] rfl ?_
        exact bL_law_406 hL hk23 hf
      · rw [if_neg c13] at hf
        refine g_iconst (v := 0) dL_law_404 (by decide) ?_
        exact hf.elim
  · rw [if_neg c10] at hf
    refine g_iconst (v := 0) dL_law_387 (by decide) ?_
    exact hf.elim

set_option maxRecDepth 100000 in
set_option maxHeartbeats 4000000 in
theorem bL_law_409 {X : Xt} {b c9 w9 : Nat} {tab : List ExceptionTableEntry} (hL : LH X b tab c9 w9) {k23 : St → Nat → Nat → Nat → Nat → Int32 → Prop} (hk23 : ∀ (σ : St) (x0 : Nat) (x1 : Nat) (x2 : Nat) (x3 : Nat) (x4 : Int32), k23 σ x0 x1 x2 x3 x4 → G MtL_law X σ 23 [(0, rv x0), (1, rv x1), (2, rv x2), (3, rv x3), (4, .int x4)] []) {σ : St} {x0 : Nat} {x1 : Nat} {x2 : Nat} {x3 : Nat} {x4 : Int32} (hf : pL_law_409 c9 w9 k23 σ x0 x1 x2 x3 x4) : G MtL_law X σ 409 [(0, rv x0), (1, rv x1), (2, rv x2), (3, rv x3), (4, .int x4)] [] := by
  unfold pL_law_409 at hf
  refine g_aload_n (j := 1) dL_law_409 rfl rfl ?_
  obtain ⟨_, h3, hf⟩ := hf
  obtain ⟨σ1, v2, eσ1, hf⟩ := hf
  refine g_callV_i dL_law_410 (wX11_errorPosition _ eσ1) (okX11_errorPosition _ (by decide) (by decide)) (ckK_el h3) hc15 t_437 t_438 t_439 rfl (Nat.le_trans (cat_le _) (Nat.le_of_ble_eq_true rfl)) rfl ?_
  refine g_aload_n (j := 2) dL_law_413 rfl rfl ?_
  obtain ⟨_, h6, hf⟩ := hf
  obtain ⟨σ4, v5, eσ4, hf⟩ := hf
  refine g_callV_i dL_law_414 (wX12_errorPosition _ eσ4) (okX12_errorPosition _ (by decide) (by decide)) (ckK_el h6) hc16 t_2523 t_2524 t_2525 rfl (Nat.le_trans (cat_le _) (Nat.le_of_ble_eq_true rfl)) rfl ?_
  refine g_icmp_eq (tgt := 2380) dL_law_417 (by decide) (fun c7 => ?_) (fun c7 => ?_)
  · rw [if_pos c7] at hf
    exact bL_law_2380 hL hk23 hf
  · rw [if_neg c7] at hf
    refine g_iconst (v := 0) dL_law_420 (by decide) ?_
    exact hf.elim

set_option maxRecDepth 100000 in
set_option maxHeartbeats 4000000 in
theorem bL_law_475 {X : Xt} {b c9 w9 : Nat} {tab : List ExceptionTableEntry} (hL : LH X b tab c9 w9) {k23 : St → Nat → Nat → Nat → Nat → Int32 → Prop} (hk23 : ∀ (σ : St) (x0 : Nat) (x1 : Nat) (x2 : Nat) (x3 : Nat) (x4 : Int32), k23 σ x0 x1 x2 x3 x4 → G MtL_law X σ 23 [(0, rv x0), (1, rv x1), (2, rv x2), (3, rv x3), (4, .int x4)] []) {σ : St} {x0 : Nat} {x1 : Nat} {x2 : Nat} {x3 : Nat} {x4 : Int32} (hf : pL_law_475 c9 w9 k23 σ x0 x1 x2 x3 x4) : G MtL_law X σ 475 [(0, rv x0), (1, rv x1), (2, rv x2), (3, rv x3), (4, .int x4)] [] := by
  unfold pL_law_475 at hf
  refine g_goto (tgt := 2380) dL_law_475 (by decide) ?_
  exact bL_law_2380 hL hk23 hf

set_option maxRecDepth 100000 in
set_option maxHeartbeats 4000000 in
theorem bL_law_422 {X : Xt} {b c9 w9 : Nat} {tab : List ExceptionTableEntry} (hL : LH X b tab c9 w9) {k23 : St → Nat → Nat → Nat → Nat → Int32 → Prop} (hk23 : ∀ (σ : St) (x0 : Nat) (x1 : Nat) (x2 : Nat) (x3 : Nat) (x4 : Int32), k23 σ x0 x1 x2 x3 x4 → G MtL_law X σ 23 [(0, rv x0), (1, rv x1), (2, rv x2), (3, rv x3), (4, .int x4)] []) {σ : St} {x0 : Nat} {x1 : Nat} {x2 : Nat} {x3 : Nat} {x4 : Int32} (hf : pL_law_422 c9 w9 k23 σ x0 x1 x2 x3 x4) : G MtL_law X σ 422 [(0, rv x0), (1, rv x1), (2, rv x2), (3, rv x3), (4, .int x4)] [] := by
  unfold pL_law_422 at hf
  refine g_aload_n (j := 1) dL_law_422 rfl rfl ?_
  refine g_aload_n (j := 0) dL_law_423 rfl rfl ?_
  refine g_iload (j := 4) dL_law_424 rfl ?_
  refine g_iconst (v := 1) dL_law_426 (by decide) ?_
  refine g_iadd dL_law_427 ?_
  obtain ⟨v1, ev1, hf⟩ := hf
  refine g_iald dL_law_428 ev1 ?_
  refine g_aload_n (j := 3) dL_law_429 rfl rfl ?_
  obtain ⟨σ2, v3, eσ2, hf⟩ := hf
  refine g_callW (n := 3) dL_law_430 (wL_refused _ hL.1 eσ2) ⟨t_1620, by decide, by decide, ⟨by decide, by decide⟩, by decide +kernel, t_0⟩ t_1618 t_1619 rfl (Nat.le_trans (cat_le _) (Nat.le_of_ble_eq_true rfl)) rfl (fun z4 hz4 => ?_)
  replace hf := hf z4 hz4
  refine g_istore (i := 5) (L' := [(5, .int v3), (0, rv x0), (1, rv x1), (2, rv x2), (3, rv x3), (4, .int x4)]) dL_law_433 (Nat.le_of_ble_eq_true rfl) rfl ?_
  refine g_aload_n (j := 3) dL_law_435 rfl rfl ?_
  refine g_aload_n (j := 1) dL_law_436 rfl rfl ?_
  refine g_iload (j := 5) dL_law_437 rfl ?_
  refine g_iconst (v := 1) dL_law_439 (by decide) ?_
  refine g_iadd dL_law_440 ?_
  obtain ⟨v5, ev5, hf⟩ := hf
  refine g_iald dL_law_441 ev5 ?_
  obtain ⟨_, h8, hf⟩ := hf
  obtain ⟨σ6, v7, eσ6, hf⟩ := hf
  refine g_callV_i dL_law_442 (wX12_refused _ eσ6) (okX12_refused _ (by decide) (by decide)) (ckK_el h8) hc16 t_2527 t_2528 t_2529 rfl (Nat.le_trans (cat_le _) (Nat.le_of_ble_eq_true rfl)) rfl ?_
  refine g_istore (i := 6) (L' := [(6, .int v7), (5, .int v3), (0, rv x0), (1, rv x1), (2, rv x2), (3, rv x3), (4, .int x4)]) dL_law_445 (Nat.le_of_ble_eq_true rfl) rfl ?_
  refine g_aload_n (j := 4) dL_law_447 rfl rfl ?_
  obtain ⟨_, h11, hf⟩ := hf
  obtain ⟨σ9, v10, eσ9, hf⟩ := hf
  refine g_callV_i dL_law_448 (wX12_thrown _ eσ9) (okX12_thrown _ (by decide) (by decide)) (ckK_el h11) hc16 t_1892 t_1893 t_1894 rfl (Nat.le_trans (cat_le _) (Nat.le_of_ble_eq_true rfl)) rfl ?_
  refine g_iload (j := 1) dL_law_451 rfl ?_
  refine g_icmp_eq (tgt := 458) dL_law_453 (by decide) (fun c12 => ?_) (fun c12 => ?_)
  · rw [if_pos c12] at hf
    refine g_iload (j := 1) dL_law_458 rfl ?_
    refine g_if_ne (tgt := 475) dL_law_460 (by decide) (fun c13 => ?_) (fun c13 => ?_)
    · rw [if_neg c13] at hf
      refine g_sub (L' := [(0, rv x0), (1, rv x1), (2, rv x2), (3, rv x3), (4, .int x4)]) [2, 3, 4, 5, 6] rfl ?_
      exact bL_law_475 hL hk23 hf
    · rw [if_pos c13] at hf
      refine g_aload_n (j := 5) dL_law_463 rfl rfl ?_
      refine g_iconst (v := 0) dL_law_464 (by decide) ?_
      obtain ⟨v14, ev14, hf⟩ := hf
      refine g_jld dL_law_465 ev14 ?_
      refine g_iload (j := 0) dL_law_466 rfl ?_
      refine g_i2l dL_law_468 rfl ?_
      refine g_lcmp dL_law_469 ?_
      refine g_if_eq (tgt := 475) dL_law_470 (by decide) (fun c15 => ?_) (fun c15 => ?_)
      · rw [if_pos c15] at hf
        refine g_sub (L' := [(0, rv x0), (1, rv x1), (2, rv x2), (3, rv x3), (4, .int x4)]) [2, 3, 4, 5, 6] rfl ?_
        exact bL_law_475 hL hk23 hf
      · rw [if_neg c15] at hf
        refine g_iconst (v := 0) dL_law_473 (by decide) ?_
        exact hf.elim
  · rw [if_neg c12] at hf
    refine g_iconst (v := 0) dL_law_456 (by decide) ?_
    exact hf.elim

set_option maxRecDepth 100000 in
set_option maxHeartbeats 4000000 in
theorem bL_law_478 {X : Xt} {b c9 w9 : Nat} {tab : List ExceptionTableEntry} (hL : LH X b tab c9 w9) {k23 : St → Nat → Nat → Nat → Nat → Int32 → Prop} (hk23 : ∀ (σ : St) (x0 : Nat) (x1 : Nat) (x2 : Nat) (x3 : Nat) (x4 : Int32), k23 σ x0 x1 x2 x3 x4 → G MtL_law X σ 23 [(0, rv x0), (1, rv x1), (2, rv x2), (3, rv x3), (4, .int x4)] []) {σ : St} {x0 : Nat} {x1 : Nat} {x2 : Nat} {x3 : Nat} {x4 : Int32} (hf : pL_law_478 c9 w9 k23 σ x0 x1 x2 x3 x4) : G MtL_law X σ 478 [(0, rv x0), (1, rv x1), (2, rv x2), (3, rv x3), (4, .int x4)] [] := by
  unfold pL_law_478 at hf
  refine g_aload_n (j := 1) dL_law_478 rfl rfl ?_
  obtain ⟨_, h3, hf⟩ := hf
  obtain ⟨σ1, v2, eσ1, hf⟩ := hf
  refine g_callV_i dL_law_479 (wX11_failed _ eσ1) (okX11_failed _ (by decide) (by decide)) (ckK_el h3) hc15 t_441 t_442 t_443 rfl (Nat.le_trans (cat_le _) (Nat.le_of_ble_eq_true rfl)) rfl ?_
  refine g_aload_n (j := 2) dL_law_482 rfl rfl ?_
  obtain ⟨_, h6, hf⟩ := hf
  obtain ⟨σ4, v5, eσ4, hf⟩ := hf
  refine g_callV_i dL_law_483 (wX12_failed _ eσ4) (okX12_failed _ (by decide) (by decide)) (ckK_el h6) hc16 t_2531 t_2532 t_2533 rfl (Nat.le_trans (cat_le _) (Nat.le_of_ble_eq_true rfl)) rfl ?_
  refine g_icmp_eq (tgt := 2380) dL_law_486 (by decide) (fun c7 => ?_) (fun c7 => ?_)
  · rw [if_pos c7] at hf
    exact bL_law_2380 hL hk23 hf
  · rw [if_neg c7] at hf
    refine g_iconst (v := 0) dL_law_489 (by decide) ?_
    exact hf.elim

set_option maxRecDepth 100000 in
set_option maxHeartbeats 4000000 in
theorem bL_law_491 {X : Xt} {b c9 w9 : Nat} {tab : List ExceptionTableEntry} (hL : LH X b tab c9 w9) {k23 : St → Nat → Nat → Nat → Nat → Int32 → Prop} (hk23 : ∀ (σ : St) (x0 : Nat) (x1 : Nat) (x2 : Nat) (x3 : Nat) (x4 : Int32), k23 σ x0 x1 x2 x3 x4 → G MtL_law X σ 23 [(0, rv x0), (1, rv x1), (2, rv x2), (3, rv x3), (4, .int x4)] []) {σ : St} {x0 : Nat} {x1 : Nat} {x2 : Nat} {x3 : Nat} {x4 : Int32} (hf : pL_law_491 c9 w9 k23 σ x0 x1 x2 x3 x4) : G MtL_law X σ 491 [(0, rv x0), (1, rv x1), (2, rv x2), (3, rv x3), (4, .int x4)] [] := by
  unfold pL_law_491 at hf
  refine g_aload_n (j := 1) dL_law_491 rfl rfl ?_
  obtain ⟨_, h3, hf⟩ := hf
  obtain ⟨σ1, v2, eσ1, hf⟩ := hf
  refine g_callV_i dL_law_492 (wX11_ring _ eσ1) (okX11_ring _ (by decide) (by decide)) (ckK_el h3) hc15 t_445 t_446 t_447 rfl (Nat.le_trans (cat_le _) (Nat.le_of_ble_eq_true rfl)) rfl ?_
  refine g_aload_n (j := 2) dL_law_495 rfl rfl ?_
  obtain ⟨_, h6, hf⟩ := hf
  obtain ⟨σ4, v5, eσ4, hf⟩ := hf
  refine g_callV_i dL_law_496 (wX12_ring _ eσ4) (okX12_ring _ (by decide) (by decide)) (ckK_el h6) hc16 t_2535 t_2536 t_2537 rfl (Nat.le_trans (cat_le _) (Nat.le_of_ble_eq_true rfl)) rfl ?_
  refine g_icmp_eq (tgt := 2380) dL_law_499 (by decide) (fun c7 => ?_) (fun c7 => ?_)
  · rw [if_pos c7] at hf
    exact bL_law_2380 hL hk23 hf
  · rw [if_neg c7] at hf
    refine g_iconst (v := 0) dL_law_502 (by decide) ?_
    exact hf.elim

set_option maxRecDepth 100000 in
set_option maxHeartbeats 4000000 in
theorem bL_law_557 {X : Xt} {b c9 w9 : Nat} {tab : List ExceptionTableEntry} (hL : LH X b tab c9 w9) {k23 : St → Nat → Nat → Nat → Nat → Int32 → Prop} (hk23 : ∀ (σ : St) (x0 : Nat) (x1 : Nat) (x2 : Nat) (x3 : Nat) (x4 : Int32), k23 σ x0 x1 x2 x3 x4 → G MtL_law X σ 23 [(0, rv x0), (1, rv x1), (2, rv x2), (3, rv x3), (4, .int x4)] []) {σ : St} {x0 : Nat} {x1 : Nat} {x2 : Nat} {x3 : Nat} {x4 : Int32} (hf : pL_law_557 c9 w9 k23 σ x0 x1 x2 x3 x4) : G MtL_law X σ 557 [(0, rv x0), (1, rv x1), (2, rv x2), (3, rv x3), (4, .int x4)] [] := by
  unfold pL_law_557 at hf
  refine g_goto (tgt := 2380) dL_law_557 (by decide) ?_
  exact bL_law_2380 hL hk23 hf

set_option maxRecDepth 100000 in
set_option maxHeartbeats 4000000 in
theorem bL_law_504 {X : Xt} {b c9 w9 : Nat} {tab : List ExceptionTableEntry} (hL : LH X b tab c9 w9) {k23 : St → Nat → Nat → Nat → Nat → Int32 → Prop} (hk23 : ∀ (σ : St) (x0 : Nat) (x1 : Nat) (x2 : Nat) (x3 : Nat) (x4 : Int32), k23 σ x0 x1 x2 x3 x4 → G MtL_law X σ 23 [(0, rv x0), (1, rv x1), (2, rv x2), (3, rv x3), (4, .int x4)] []) {σ : St} {x0 : Nat} {x1 : Nat} {x2 : Nat} {x3 : Nat} {x4 : Int32} (hf : pL_law_504 c9 w9 k23 σ x0 x1 x2 x3 x4) : G MtL_law X σ 504 [(0, rv x0), (1, rv x1), (2, rv x2), (3, rv x3), (4, .int x4)] [] := by
  unfold pL_law_504 at hf
  refine g_aload_n (j := 1) dL_law_504 rfl rfl ?_
  refine g_aload_n (j := 0) dL_law_505 rfl rfl ?_
  refine g_iload (j := 4) dL_law_506 rfl ?_
  refine g_iconst (v := 1) dL_law_508 (by decide) ?_
  refine g_iadd dL_law_509 ?_
  obtain ⟨v1, ev1, hf⟩ := hf
  refine g_iald dL_law_510 ev1 ?_
  refine g_aload_n (j := 3) dL_law_511 rfl rfl ?_
  obtain ⟨σ2, v3, eσ2, hf⟩ := hf
  refine g_callW (n := 3) dL_law_512 (wL_ringAt _ hL.1 eσ2) ⟨t_1627, by decide, by decide, ⟨by decide, by decide⟩, by decide +kernel, t_0⟩ t_1625 t_1626 rfl (Nat.le_trans (cat_le _) (Nat.le_of_ble_eq_true rfl)) rfl (fun z4 hz4 => ?_)
  replace hf := hf z4 hz4
  refine g_istore (i := 5) (L' := [(5, .int v3), (0, rv x0), (1, rv x1), (2, rv x2), (3, rv x3), (4, .int x4)]) dL_law_515 (Nat.le_of_ble_eq_true rfl) rfl ?_
  refine g_aload_n (j := 3) dL_law_517 rfl rfl ?_
  refine g_aload_n (j := 1) dL_law_518 rfl rfl ?_
  refine g_iload (j := 5) dL_law_519 rfl ?_
  refine g_iconst (v := 1) dL_law_521 (by decide) ?_
  refine g_iadd dL_law_522 ?_
  obtain ⟨v5, ev5, hf⟩ := hf
  refine g_iald dL_law_523 ev5 ?_
  obtain ⟨_, h8, hf⟩ := hf
  obtain ⟨σ6, v7, eσ6, hf⟩ := hf
  refine g_callV_i dL_law_524 (wX12_ringAt _ eσ6) (okX12_ringAt _ (by decide) (by decide)) (ckK_el h8) hc16 t_2539 t_2540 t_2541 rfl (Nat.le_trans (cat_le _) (Nat.le_of_ble_eq_true rfl)) rfl ?_
  refine g_istore (i := 6) (L' := [(6, .int v7), (5, .int v3), (0, rv x0), (1, rv x1), (2, rv x2), (3, rv x3), (4, .int x4)]) dL_law_527 (Nat.le_of_ble_eq_true rfl) rfl ?_
  refine g_aload_n (j := 4) dL_law_529 rfl rfl ?_
  obtain ⟨_, h11, hf⟩ := hf
  obtain ⟨σ9, v10, eσ9, hf⟩ := hf
  refine g_callV_i dL_law_530 (wX12_thrown _ eσ9) (okX12_thrown _ (by decide) (by decide)) (ckK_el h11) hc16 t_1892 t_1893 t_1894 rfl (Nat.le_trans (cat_le _) (Nat.le_of_ble_eq_true rfl)) rfl ?_
  refine g_iload (j := 1) dL_law_533 rfl ?_
  refine g_icmp_eq (tgt := 540) dL_law_535 (by decide) (fun c12 => ?_) (fun c12 => ?_)
  · rw [if_pos c12] at hf
    refine g_iload (j := 1) dL_law_540 rfl ?_
    refine g_if_ne (tgt := 557) dL_law_542 (by decide) (fun c13 => ?_) (fun c13 => ?_)
    · rw [if_neg c13] at hf
      refine g_sub (L' := [(0, rv x0), (1, rv x1), (2, rv x2), (3, rv x3), (4, .int x4)]) [2, 3, 4, 5, 6] rfl ?_
      exact bL_law_557 hL hk23 hf
    · rw [if_pos c13] at hf
      refine g_aload_n (j := 5) dL_law_545 rfl rfl ?_
      refine g_iconst (v := 0) dL_law_546 (by decide) ?_
      obtain ⟨v14, ev14, hf⟩ := hf
      refine g_jld dL_law_547 ev14 ?_
      refine g_iload (j := 0) dL_law_548 rfl ?_
      refine g_i2l dL_law_550 rfl ?_
      refine g_lcmp dL_law_551 ?_
      refine g_if_eq (tgt := 557) dL_law_552 (by decide) (fun c15 => ?_) (fun c15 => ?_)
      · rw [if_pos c15] at hf
        refine g_sub (L' := [(0, rv x0), (1, rv x1), (2, rv x2), (3, rv x3), (4, .int x4)]) [2, 3, 4, 5, 6] rfl ?_
        exact bL_law_557 hL hk23 hf
      · rw [if_neg c15] at hf
        refine g_iconst (v := 0) dL_law_555 (by decide) ?_
        exact hf.elim
  · rw [if_neg c12] at hf
    refine g_iconst (v := 0) dL_law_538 (by decide) ?_
    exact hf.elim

set_option maxRecDepth 100000 in
set_option maxHeartbeats 4000000 in
theorem bL_law_560 {X : Xt} {b c9 w9 : Nat} {tab : List ExceptionTableEntry} (hL : LH X b tab c9 w9) {k23 : St → Nat → Nat → Nat → Nat → Int32 → Prop} (hk23 : ∀ (σ : St) (x0 : Nat) (x1 : Nat) (x2 : Nat) (x3 : Nat) (x4 : Int32), k23 σ x0 x1 x2 x3 x4 → G MtL_law X σ 23 [(0, rv x0), (1, rv x1), (2, rv x2), (3, rv x3), (4, .int x4)] []) {σ : St} {x0 : Nat} {x1 : Nat} {x2 : Nat} {x3 : Nat} {x4 : Int32} (hf : pL_law_560 c9 w9 k23 σ x0 x1 x2 x3 x4) : G MtL_law X σ 560 [(0, rv x0), (1, rv x1), (2, rv x2), (3, rv x3), (4, .int x4)] [] := by
  unfold pL_law_560 at hf
  refine g_aload_n (j := 1) dL_law_560 rfl rfl ?_
  obtain ⟨_, h3, hf⟩ := hf
  obtain ⟨σ1, v2, eσ1, hf⟩ := hf
  refine g_callV_i dL_law_561 (wX11_sign _ eσ1) (okX11_sign _ (by decide) (by decide)) (ckK_el h3) hc15 t_449 t_450 t_451 rfl (Nat.le_trans (cat_le _) (Nat.le_of_ble_eq_true rfl)) rfl ?_
  refine g_aload_n (j := 2) dL_law_564 rfl rfl ?_
  obtain ⟨_, h6, hf⟩ := hf
  obtain ⟨σ4, v5, eσ4, hf⟩ := hf
  refine g_callV_i dL_law_565 (wX12_sign _ eσ4) (okX12_sign _ (by decide) (by decide)) (ckK_el h6) hc16 t_2551 t_2552 t_2553 rfl (Nat.le_trans (cat_le _) (Nat.le_of_ble_eq_true rfl)) rfl ?_
  refine g_icmp_eq (tgt := 2380) dL_law_568 (by decide) (fun c7 => ?_) (fun c7 => ?_)
  · rw [if_pos c7] at hf
    exact bL_law_2380 hL hk23 hf
  · rw [if_neg c7] at hf
    refine g_iconst (v := 0) dL_law_571 (by decide) ?_
    exact hf.elim

set_option maxRecDepth 100000 in
set_option maxHeartbeats 4000000 in
theorem bL_law_606 {X : Xt} {b c9 w9 : Nat} {tab : List ExceptionTableEntry} (hL : LH X b tab c9 w9) {k23 : St → Nat → Nat → Nat → Nat → Int32 → Prop} (hk23 : ∀ (σ : St) (x0 : Nat) (x1 : Nat) (x2 : Nat) (x3 : Nat) (x4 : Int32), k23 σ x0 x1 x2 x3 x4 → G MtL_law X σ 23 [(0, rv x0), (1, rv x1), (2, rv x2), (3, rv x3), (4, .int x4)] []) {σ : St} {x0 : Nat} {x1 : Nat} {x2 : Nat} {x3 : Nat} {x4 : Int32} {y0 : Int32} {y1 : Nat} {y2 : Int32} (hf : pL_law_606 c9 w9 k23 σ x0 x1 x2 x3 x4 y0 y1 y2) : G MtL_law X σ 606 [(0, rv x0), (1, rv x1), (2, rv x2), (3, rv x3), (4, .int x4)] [.int y2, rv y1, .int y0] := by
  unfold pL_law_606 at hf
  obtain ⟨_, h3, hf⟩ := hf
  obtain ⟨σ1, v2, eσ1, hf⟩ := hf
  refine g_callV_i dL_law_606 (wX12_digits _ eσ1) (okX12_digits _ (by decide) (by decide)) (ckK_el h3) hc16 t_2555 t_2556 t_2557 rfl (Nat.le_trans (cat_le _) (Nat.le_of_ble_eq_true rfl)) rfl ?_
  refine g_icmp_eq (tgt := 2380) dL_law_609 (by decide) (fun c4 => ?_) (fun c4 => ?_)
  · rw [if_pos c4] at hf
    exact bL_law_2380 hL hk23 hf
  · rw [if_neg c4] at hf
    refine g_iconst (v := 0) dL_law_612 (by decide) ?_
    exact hf.elim

set_option maxRecDepth 100000 in
set_option maxHeartbeats 4000000 in
theorem bL_law_588 {X : Xt} {b c9 w9 : Nat} {tab : List ExceptionTableEntry} (hL : LH X b tab c9 w9) {k23 : St → Nat → Nat → Nat → Nat → Int32 → Prop} (hk23 : ∀ (σ : St) (x0 : Nat) (x1 : Nat) (x2 : Nat) (x3 : Nat) (x4 : Int32), k23 σ x0 x1 x2 x3 x4 → G MtL_law X σ 23 [(0, rv x0), (1, rv x1), (2, rv x2), (3, rv x3), (4, .int x4)] []) {σ : St} {x0 : Nat} {x1 : Nat} {x2 : Nat} {x3 : Nat} {x4 : Int32} {y0 : Nat} {y1 : Int32} (hf : pL_law_588 c9 w9 k23 σ x0 x1 x2 x3 x4 y0 y1) : G MtL_law X σ 588 [(0, rv x0), (1, rv x1), (2, rv x2), (3, rv x3), (4, .int x4)] [.int y1, rv y0] := by
  unfold pL_law_588 at hf
  obtain ⟨_, h3, hf⟩ := hf
  obtain ⟨σ1, v2, eσ1, hf⟩ := hf
  refine g_callV_i dL_law_588 (wX11_digits _ eσ1) (okX11_digits _ (by decide) (by decide)) (ckK_el h3) hc15 t_453 t_454 t_455 rfl (Nat.le_trans (cat_le _) (Nat.le_of_ble_eq_true rfl)) rfl ?_
  refine g_aload_n (j := 2) dL_law_591 rfl rfl ?_
  refine g_aload_n (j := 0) dL_law_592 rfl rfl ?_
  refine g_iload (j := 4) dL_law_593 rfl ?_
  refine g_iconst (v := 1) dL_law_595 (by decide) ?_
  refine g_iadd dL_law_596 ?_
  obtain ⟨v4, ev4, hf⟩ := hf
  refine g_iald dL_law_597 ev4 ?_
  refine g_if_eq (tgt := 605) dL_law_598 (by decide) (fun c5 => ?_) (fun c5 => ?_)
  · rw [if_pos c5] at hf
    refine g_iconst (v := 0) dL_law_605 (by decide) ?_
    exact bL_law_606 hL hk23 hf
  · rw [if_neg c5] at hf
    refine g_iconst (v := 1) dL_law_601 (by decide) ?_
    refine g_goto (tgt := 606) dL_law_602 (by decide) ?_
    exact bL_law_606 hL hk23 hf

set_option maxRecDepth 100000 in
set_option maxHeartbeats 4000000 in
theorem bL_law_573 {X : Xt} {b c9 w9 : Nat} {tab : List ExceptionTableEntry} (hL : LH X b tab c9 w9) {k23 : St → Nat → Nat → Nat → Nat → Int32 → Prop} (hk23 : ∀ (σ : St) (x0 : Nat) (x1 : Nat) (x2 : Nat) (x3 : Nat) (x4 : Int32), k23 σ x0 x1 x2 x3 x4 → G MtL_law X σ 23 [(0, rv x0), (1, rv x1), (2, rv x2), (3, rv x3), (4, .int x4)] []) {σ : St} {x0 : Nat} {x1 : Nat} {x2 : Nat} {x3 : Nat} {x4 : Int32} (hf : pL_law_573 c9 w9 k23 σ x0 x1 x2 x3 x4) : G MtL_law X σ 573 [(0, rv x0), (1, rv x1), (2, rv x2), (3, rv x3), (4, .int x4)] [] := by
  unfold pL_law_573 at hf
  refine g_aload_n (j := 1) dL_law_573 rfl rfl ?_
  refine g_aload_n (j := 0) dL_law_574 rfl rfl ?_
  refine g_iload (j := 4) dL_law_575 rfl ?_
  refine g_iconst (v := 1) dL_law_577 (by decide) ?_
  refine g_iadd dL_law_578 ?_
  obtain ⟨v1, ev1, hf⟩ := hf
  refine g_iald dL_law_579 ev1 ?_
  refine g_if_eq (tgt := 587) dL_law_580 (by decide) (fun c2 => ?_) (fun c2 => ?_)
  · rw [if_pos c2] at hf
    refine g_iconst (v := 0) dL_law_587 (by decide) ?_
    exact bL_law_588 hL hk23 hf
  · rw [if_neg c2] at hf
    refine g_iconst (v := 1) dL_law_583 (by decide) ?_
    refine g_goto (tgt := 588) dL_law_584 (by decide) ?_
    exact bL_law_588 hL hk23 hf

set_option maxRecDepth 100000 in
set_option maxHeartbeats 4000000 in
theorem bL_law_695 {X : Xt} {b c9 w9 : Nat} {tab : List ExceptionTableEntry} (hL : LH X b tab c9 w9) {k23 : St → Nat → Nat → Nat → Nat → Int32 → Prop} (hk23 : ∀ (σ : St) (x0 : Nat) (x1 : Nat) (x2 : Nat) (x3 : Nat) (x4 : Int32), k23 σ x0 x1 x2 x3 x4 → G MtL_law X σ 23 [(0, rv x0), (1, rv x1), (2, rv x2), (3, rv x3), (4, .int x4)] []) {σ : St} {x0 : Nat} {x1 : Nat} {x2 : Nat} {x3 : Nat} {x4 : Int32} (hf : pL_law_695 c9 w9 k23 σ x0 x1 x2 x3 x4) : G MtL_law X σ 695 [(0, rv x0), (1, rv x1), (2, rv x2), (3, rv x3), (4, .int x4)] [] := by
  unfold pL_law_695 at hf
  refine g_goto (tgt := 2380) dL_law_695 (by decide) ?_
  exact bL_law_2380 hL hk23 hf

set_option maxRecDepth 100000 in
set_option maxHeartbeats 4000000 in
theorem bL_law_656 {X : Xt} {b c9 w9 : Nat} {tab : List ExceptionTableEntry} (hL : LH X b tab c9 w9) {k23 : St → Nat → Nat → Nat → Nat → Int32 → Prop} (hk23 : ∀ (σ : St) (x0 : Nat) (x1 : Nat) (x2 : Nat) (x3 : Nat) (x4 : Int32), k23 σ x0 x1 x2 x3 x4 → G MtL_law X σ 23 [(0, rv x0), (1, rv x1), (2, rv x2), (3, rv x3), (4, .int x4)] []) {σ : St} {x0 : Nat} {x1 : Nat} {x2 : Nat} {x3 : Nat} {x4 : Int32} {x5 : Int32} {y0 : Nat} {y1 : Int32} (hf : pL_law_656 c9 w9 k23 σ x0 x1 x2 x3 x4 x5 y0 y1) : G MtL_law X σ 656 [(0, rv x0), (1, rv x1), (2, rv x2), (3, rv x3), (4, .int x4), (5, .int x5)] [.int y1, rv y0] := by
  unfold pL_law_656 at hf
  refine g_aload_n (j := 0) dL_law_656 rfl rfl ?_
  refine g_iload (j := 4) dL_law_657 rfl ?_
  refine g_iconst (v := 2) dL_law_659 (by decide) ?_
  refine g_iadd dL_law_660 ?_
  obtain ⟨v1, ev1, hf⟩ := hf
  refine g_iald dL_law_661 ev1 ?_
  obtain ⟨_, h4, hf⟩ := hf
  obtain ⟨σ2, v3, eσ2, hf⟩ := hf
  refine g_callV_i dL_law_662 (wX12_digit _ eσ2) (okX12_digit _ (by decide) (by decide)) (ckK_el h4) hc16 t_2571 t_2572 t_2573 rfl (Nat.le_trans (cat_le _) (Nat.le_of_ble_eq_true rfl)) rfl ?_
  refine g_istore (i := 6) (L' := [(6, .int v3), (0, rv x0), (1, rv x1), (2, rv x2), (3, rv x3), (4, .int x4), (5, .int x5)]) dL_law_665 (Nat.le_of_ble_eq_true rfl) rfl ?_
  refine g_aload_n (j := 3) dL_law_667 rfl rfl ?_
  obtain ⟨_, h7, hf⟩ := hf
  obtain ⟨σ5, v6, eσ5, hf⟩ := hf
  refine g_callV_i dL_law_668 (wX12_thrown _ eσ5) (okX12_thrown _ (by decide) (by decide)) (ckK_el h7) hc16 t_1892 t_1893 t_1894 rfl (Nat.le_trans (cat_le _) (Nat.le_of_ble_eq_true rfl)) rfl ?_
  refine g_iload (j := 6) dL_law_671 rfl ?_
  refine g_icmp_eq (tgt := 678) dL_law_673 (by decide) (fun c8 => ?_) (fun c8 => ?_)
  · rw [if_pos c8] at hf
    refine g_iload (j := 6) dL_law_678 rfl ?_
    refine g_if_ne (tgt := 695) dL_law_680 (by decide) (fun c9 => ?_) (fun c9 => ?_)
    · rw [if_neg c9] at hf
      refine g_sub (L' := [(0, rv x0), (1, rv x1), (2, rv x2), (3, rv x3), (4, .int x4)]) [1, 2, 3, 4, 5] rfl ?_
      exact bL_law_695 hL hk23 hf
    · rw [if_pos c9] at hf
      refine g_aload_n (j := 4) dL_law_683 rfl rfl ?_
      refine g_iconst (v := 0) dL_law_684 (by decide) ?_
      obtain ⟨v10, ev10, hf⟩ := hf
      refine g_jld dL_law_685 ev10 ?_
      refine g_iload (j := 0) dL_law_686 rfl ?_
      refine g_i2l dL_law_688 rfl ?_
      refine g_lcmp dL_law_689 ?_
      refine g_if_eq (tgt := 695) dL_law_690 (by decide) (fun c11 => ?_) (fun c11 => ?_)
      · rw [if_pos c11] at hf
        refine g_sub (L' := [(0, rv x0), (1, rv x1), (2, rv x2), (3, rv x3), (4, .int x4)]) [1, 2, 3, 4, 5] rfl ?_
        exact bL_law_695 hL hk23 hf
      · rw [if_neg c11] at hf
        refine g_iconst (v := 0) dL_law_693 (by decide) ?_
        exact hf.elim
  · rw [if_neg c8] at hf
    refine g_iconst (v := 0) dL_law_676 (by decide) ?_
    exact hf.elim

set_option maxRecDepth 100000 in
set_option maxHeartbeats 4000000 in
theorem bL_law_629 {X : Xt} {b c9 w9 : Nat} {tab : List ExceptionTableEntry} (hL : LH X b tab c9 w9) {k23 : St → Nat → Nat → Nat → Nat → Int32 → Prop} (hk23 : ∀ (σ : St) (x0 : Nat) (x1 : Nat) (x2 : Nat) (x3 : Nat) (x4 : Int32), k23 σ x0 x1 x2 x3 x4 → G MtL_law X σ 23 [(0, rv x0), (1, rv x1), (2, rv x2), (3, rv x3), (4, .int x4)] []) {σ : St} {x0 : Nat} {x1 : Nat} {x2 : Nat} {x3 : Nat} {x4 : Int32} {y0 : Nat} {y1 : Int32} (hf : pL_law_629 c9 w9 k23 σ x0 x1 x2 x3 x4 y0 y1) : G MtL_law X σ 629 [(0, rv x0), (1, rv x1), (2, rv x2), (3, rv x3), (4, .int x4)] [.int y1, rv y0] := by
  unfold pL_law_629 at hf
  refine g_aload_n (j := 0) dL_law_629 rfl rfl ?_
  refine g_iload (j := 4) dL_law_630 rfl ?_
  refine g_iconst (v := 2) dL_law_632 (by decide) ?_
  refine g_iadd dL_law_633 ?_
  obtain ⟨v1, ev1, hf⟩ := hf
  refine g_iald dL_law_634 ev1 ?_
  refine g_aload_n (j := 3) dL_law_635 rfl rfl ?_
  obtain ⟨σ2, v3, eσ2, hf⟩ := hf
  refine g_callW (n := 4) dL_law_636 (wL_digit _ hL.1 eσ2) ⟨t_1652, by decide, by decide, ⟨by decide, by decide⟩, by decide +kernel, t_0⟩ t_1650 t_1651 rfl (Nat.le_trans (cat_le _) (Nat.le_of_ble_eq_true rfl)) rfl (fun z4 hz4 => ?_)
  replace hf := hf z4 hz4
  refine g_istore (i := 5) (L' := [(5, .int v3), (0, rv x0), (1, rv x1), (2, rv x2), (3, rv x3), (4, .int x4)]) dL_law_639 (Nat.le_of_ble_eq_true rfl) rfl ?_
  refine g_aload_n (j := 3) dL_law_641 rfl rfl ?_
  refine g_aload_n (j := 1) dL_law_642 rfl rfl ?_
  refine g_iload (j := 5) dL_law_643 rfl ?_
  refine g_iconst (v := 1) dL_law_645 (by decide) ?_
  refine g_iadd dL_law_646 ?_
  obtain ⟨v5, ev5, hf⟩ := hf
  refine g_iald dL_law_647 ev5 ?_
  refine g_if_eq (tgt := 655) dL_law_648 (by decide) (fun c6 => ?_) (fun c6 => ?_)
  · rw [if_pos c6] at hf
    refine g_iconst (v := 0) dL_law_655 (by decide) ?_
    refine g_sub (L' := [(0, rv x0), (1, rv x1), (2, rv x2), (3, rv x3), (4, .int x4), (5, .int v3)]) [1, 2, 3, 4, 5, 0] rfl ?_
    exact bL_law_656 hL hk23 hf
  · rw [if_neg c6] at hf
    refine g_iconst (v := 1) dL_law_651 (by decide) ?_
    refine g_goto (tgt := 656) dL_law_652 (by decide) ?_
    refine g_sub (L' := [(0, rv x0), (1, rv x1), (2, rv x2), (3, rv x3), (4, .int x4), (5, .int v3)]) [1, 2, 3, 4, 5, 0] rfl ?_
    exact bL_law_656 hL hk23 hf

set_option maxRecDepth 100000 in
set_option maxHeartbeats 4000000 in
theorem bL_law_614 {X : Xt} {b c9 w9 : Nat} {tab : List ExceptionTableEntry} (hL : LH X b tab c9 w9) {k23 : St → Nat → Nat → Nat → Nat → Int32 → Prop} (hk23 : ∀ (σ : St) (x0 : Nat) (x1 : Nat) (x2 : Nat) (x3 : Nat) (x4 : Int32), k23 σ x0 x1 x2 x3 x4 → G MtL_law X σ 23 [(0, rv x0), (1, rv x1), (2, rv x2), (3, rv x3), (4, .int x4)] []) {σ : St} {x0 : Nat} {x1 : Nat} {x2 : Nat} {x3 : Nat} {x4 : Int32} (hf : pL_law_614 c9 w9 k23 σ x0 x1 x2 x3 x4) : G MtL_law X σ 614 [(0, rv x0), (1, rv x1), (2, rv x2), (3, rv x3), (4, .int x4)] [] := by
  unfold pL_law_614 at hf
  refine g_aload_n (j := 1) dL_law_614 rfl rfl ?_
  refine g_aload_n (j := 0) dL_law_615 rfl rfl ?_
  refine g_iload (j := 4) dL_law_616 rfl ?_
  refine g_iconst (v := 1) dL_law_618 (by decide) ?_
  refine g_iadd dL_law_619 ?_
  obtain ⟨v1, ev1, hf⟩ := hf
  refine g_iald dL_law_620 ev1 ?_
  refine g_if_eq (tgt := 628) dL_law_621 (by decide) (fun c2 => ?_) (fun c2 => ?_)
  · rw [if_pos c2] at hf
    refine g_iconst (v := 0) dL_law_628 (by decide) ?_
    exact bL_law_629 hL hk23 hf
  · rw [if_neg c2] at hf
    refine g_iconst (v := 1) dL_law_624 (by decide) ?_
    refine g_goto (tgt := 629) dL_law_625 (by decide) ?_
    exact bL_law_629 hL hk23 hf

set_option maxRecDepth 100000 in
set_option maxHeartbeats 4000000 in
theorem bL_law_731 {X : Xt} {b c9 w9 : Nat} {tab : List ExceptionTableEntry} (hL : LH X b tab c9 w9) {k23 : St → Nat → Nat → Nat → Nat → Int32 → Prop} (hk23 : ∀ (σ : St) (x0 : Nat) (x1 : Nat) (x2 : Nat) (x3 : Nat) (x4 : Int32), k23 σ x0 x1 x2 x3 x4 → G MtL_law X σ 23 [(0, rv x0), (1, rv x1), (2, rv x2), (3, rv x3), (4, .int x4)] []) {σ : St} {x0 : Nat} {x1 : Nat} {x2 : Nat} {x3 : Nat} {x4 : Int32} {y0 : Int32} {y1 : Nat} {y2 : Int32} (hf : pL_law_731 c9 w9 k23 σ x0 x1 x2 x3 x4 y0 y1 y2) : G MtL_law X σ 731 [(0, rv x0), (1, rv x1), (2, rv x2), (3, rv x3), (4, .int x4)] [.int y2, rv y1, .int y0] := by
  unfold pL_law_731 at hf
  obtain ⟨_, h3, hf⟩ := hf
  obtain ⟨σ1, v2, eσ1, hf⟩ := hf
  refine g_callV_i dL_law_731 (wX12_write _ eσ1) (okX12_write _ (by decide) (by decide)) (ckK_el h3) hc16 t_2575 t_2576 t_2577 rfl (Nat.le_trans (cat_le _) (Nat.le_of_ble_eq_true rfl)) rfl ?_
  refine g_icmp_eq (tgt := 2380) dL_law_734 (by decide) (fun c4 => ?_) (fun c4 => ?_)
  · rw [if_pos c4] at hf
    exact bL_law_2380 hL hk23 hf
  · rw [if_neg c4] at hf
    refine g_iconst (v := 0) dL_law_737 (by decide) ?_
    exact hf.elim

set_option maxRecDepth 100000 in
set_option maxHeartbeats 4000000 in
theorem bL_law_713 {X : Xt} {b c9 w9 : Nat} {tab : List ExceptionTableEntry} (hL : LH X b tab c9 w9) {k23 : St → Nat → Nat → Nat → Nat → Int32 → Prop} (hk23 : ∀ (σ : St) (x0 : Nat) (x1 : Nat) (x2 : Nat) (x3 : Nat) (x4 : Int32), k23 σ x0 x1 x2 x3 x4 → G MtL_law X σ 23 [(0, rv x0), (1, rv x1), (2, rv x2), (3, rv x3), (4, .int x4)] []) {σ : St} {x0 : Nat} {x1 : Nat} {x2 : Nat} {x3 : Nat} {x4 : Int32} {y0 : Nat} {y1 : Int32} (hf : pL_law_713 c9 w9 k23 σ x0 x1 x2 x3 x4 y0 y1) : G MtL_law X σ 713 [(0, rv x0), (1, rv x1), (2, rv x2), (3, rv x3), (4, .int x4)] [.int y1, rv y0] := by
  unfold pL_law_713 at hf
  obtain ⟨_, h3, hf⟩ := hf
  obtain ⟨σ1, v2, eσ1, hf⟩ := hf
  refine g_callV_i dL_law_713 (wX11_write _ eσ1) (okX11_write _ (by decide) (by decide)) (ckK_el h3) hc15 t_465 t_466 t_467 rfl (Nat.le_trans (cat_le _) (Nat.le_of_ble_eq_true rfl)) rfl ?_
  refine g_aload_n (j := 2) dL_law_716 rfl rfl ?_
  refine g_aload_n (j := 0) dL_law_717 rfl rfl ?_
  refine g_iload (j := 4) dL_law_718 rfl ?_
  refine g_iconst (v := 1) dL_law_720 (by decide) ?_
  refine g_iadd dL_law_721 ?_
  obtain ⟨v4, ev4, hf⟩ := hf
  refine g_iald dL_law_722 ev4 ?_
  refine g_if_eq (tgt := 730) dL_law_723 (by decide) (fun c5 => ?_) (fun c5 => ?_)
  · rw [if_pos c5] at hf
    refine g_iconst (v := 0) dL_law_730 (by decide) ?_
    exact bL_law_731 hL hk23 hf
  · rw [if_neg c5] at hf
    refine g_iconst (v := 1) dL_law_726 (by decide) ?_
    refine g_goto (tgt := 731) dL_law_727 (by decide) ?_
    exact bL_law_731 hL hk23 hf

set_option maxRecDepth 100000 in
set_option maxHeartbeats 4000000 in
theorem bL_law_698 {X : Xt} {b c9 w9 : Nat} {tab : List ExceptionTableEntry} (hL : LH X b tab c9 w9) {k23 : St → Nat → Nat → Nat → Nat → Int32 → Prop} (hk23 : ∀ (σ : St) (x0 : Nat) (x1 : Nat) (x2 : Nat) (x3 : Nat) (x4 : Int32), k23 σ x0 x1 x2 x3 x4 → G MtL_law X σ 23 [(0, rv x0), (1, rv x1), (2, rv x2), (3, rv x3), (4, .int x4)] []) {σ : St} {x0 : Nat} {x1 : Nat} {x2 : Nat} {x3 : Nat} {x4 : Int32} (hf : pL_law_698 c9 w9 k23 σ x0 x1 x2 x3 x4) : G MtL_law X σ 698 [(0, rv x0), (1, rv x1), (2, rv x2), (3, rv x3), (4, .int x4)] [] := by
  unfold pL_law_698 at hf
  refine g_aload_n (j := 1) dL_law_698 rfl rfl ?_
  refine g_aload_n (j := 0) dL_law_699 rfl rfl ?_
  refine g_iload (j := 4) dL_law_700 rfl ?_
  refine g_iconst (v := 1) dL_law_702 (by decide) ?_
  refine g_iadd dL_law_703 ?_
  obtain ⟨v1, ev1, hf⟩ := hf
  refine g_iald dL_law_704 ev1 ?_
  refine g_if_eq (tgt := 712) dL_law_705 (by decide) (fun c2 => ?_) (fun c2 => ?_)
  · rw [if_pos c2] at hf
    refine g_iconst (v := 0) dL_law_712 (by decide) ?_
    exact bL_law_713 hL hk23 hf
  · rw [if_neg c2] at hf
    refine g_iconst (v := 1) dL_law_708 (by decide) ?_
    refine g_goto (tgt := 713) dL_law_709 (by decide) ?_
    exact bL_law_713 hL hk23 hf

set_option maxRecDepth 100000 in
set_option maxHeartbeats 4000000 in
theorem bL_law_792 {X : Xt} {b c9 w9 : Nat} {tab : List ExceptionTableEntry} (hL : LH X b tab c9 w9) {k23 : St → Nat → Nat → Nat → Nat → Int32 → Prop} (hk23 : ∀ (σ : St) (x0 : Nat) (x1 : Nat) (x2 : Nat) (x3 : Nat) (x4 : Int32), k23 σ x0 x1 x2 x3 x4 → G MtL_law X σ 23 [(0, rv x0), (1, rv x1), (2, rv x2), (3, rv x3), (4, .int x4)] []) {σ : St} {x0 : Nat} {x1 : Nat} {x2 : Nat} {x3 : Nat} {x4 : Int32} (hf : pL_law_792 c9 w9 k23 σ x0 x1 x2 x3 x4) : G MtL_law X σ 792 [(0, rv x0), (1, rv x1), (2, rv x2), (3, rv x3), (4, .int x4)] [] := by
  unfold pL_law_792 at hf
  refine g_goto (tgt := 2380) dL_law_792 (by decide) ?_
  exact bL_law_2380 hL hk23 hf

set_option maxRecDepth 100000 in
set_option maxHeartbeats 4000000 in
theorem bL_law_739 {X : Xt} {b c9 w9 : Nat} {tab : List ExceptionTableEntry} (hL : LH X b tab c9 w9) {k23 : St → Nat → Nat → Nat → Nat → Int32 → Prop} (hk23 : ∀ (σ : St) (x0 : Nat) (x1 : Nat) (x2 : Nat) (x3 : Nat) (x4 : Int32), k23 σ x0 x1 x2 x3 x4 → G MtL_law X σ 23 [(0, rv x0), (1, rv x1), (2, rv x2), (3, rv x3), (4, .int x4)] []) {σ : St} {x0 : Nat} {x1 : Nat} {x2 : Nat} {x3 : Nat} {x4 : Int32} (hf : pL_law_739 c9 w9 k23 σ x0 x1 x2 x3 x4) : G MtL_law X σ 739 [(0, rv x0), (1, rv x1), (2, rv x2), (3, rv x3), (4, .int x4)] [] := by
  unfold pL_law_739 at hf
  refine g_aload_n (j := 1) dL_law_739 rfl rfl ?_
  refine g_aload_n (j := 0) dL_law_740 rfl rfl ?_
  refine g_iload (j := 4) dL_law_741 rfl ?_
  refine g_iconst (v := 1) dL_law_743 (by decide) ?_
  refine g_iadd dL_law_744 ?_
  obtain ⟨v1, ev1, hf⟩ := hf
  refine g_iald dL_law_745 ev1 ?_
  refine g_aload_n (j := 3) dL_law_746 rfl rfl ?_
  obtain ⟨σ2, v3, eσ2, hf⟩ := hf
  refine g_callW (n := 3) dL_law_747 (wL_writtenAt _ hL.1 eσ2) ⟨t_1659, by decide, by decide, ⟨by decide, by decide⟩, by decide +kernel, t_0⟩ t_1657 t_1658 rfl (Nat.le_trans (cat_le _) (Nat.le_of_ble_eq_true rfl)) rfl (fun z4 hz4 => ?_)
  replace hf := hf z4 hz4
  refine g_istore (i := 5) (L' := [(5, .int v3), (0, rv x0), (1, rv x1), (2, rv x2), (3, rv x3), (4, .int x4)]) dL_law_750 (Nat.le_of_ble_eq_true rfl) rfl ?_
  refine g_aload_n (j := 3) dL_law_752 rfl rfl ?_
  refine g_aload_n (j := 1) dL_law_753 rfl rfl ?_
  refine g_iload (j := 5) dL_law_754 rfl ?_
  refine g_iconst (v := 1) dL_law_756 (by decide) ?_
  refine g_iadd dL_law_757 ?_
  obtain ⟨v5, ev5, hf⟩ := hf
  refine g_iald dL_law_758 ev5 ?_
  obtain ⟨_, h8, hf⟩ := hf
  obtain ⟨σ6, v7, eσ6, hf⟩ := hf
  refine g_callV_i dL_law_759 (wX12_writtenAt _ eσ6) (okX12_writtenAt _ (by decide) (by decide)) (ckK_el h8) hc16 t_2599 t_2600 t_2601 rfl (Nat.le_trans (cat_le _) (Nat.le_of_ble_eq_true rfl)) rfl ?_
  refine g_istore (i := 6) (L' := [(6, .int v7), (5, .int v3), (0, rv x0), (1, rv x1), (2, rv x2), (3, rv x3), (4, .int x4)]) dL_law_762 (Nat.le_of_ble_eq_true rfl) rfl ?_
  refine g_aload_n (j := 4) dL_law_764 rfl rfl ?_
  obtain ⟨_, h11, hf⟩ := hf
  obtain ⟨σ9, v10, eσ9, hf⟩ := hf
  refine g_callV_i dL_law_765 (wX12_thrown _ eσ9) (okX12_thrown _ (by decide) (by decide)) (ckK_el h11) hc16 t_1892 t_1893 t_1894 rfl (Nat.le_trans (cat_le _) (Nat.le_of_ble_eq_true rfl)) rfl ?_
  refine g_iload (j := 1) dL_law_768 rfl ?_
  refine g_icmp_eq (tgt := 775) dL_law_770 (by decide) (fun c12 => ?_) (fun c12 => ?_)
  · rw [if_pos c12] at hf
    refine g_iload (j := 1) dL_law_775 rfl ?_
    refine g_if_ne (tgt := 792) dL_law_777 (by decide) (fun c13 => ?_) (fun c13 => ?_)
    · rw [if_neg c13] at hf
      refine g_sub (L' := [(0, rv x0), (1, rv x1), (2, rv x2), (3, rv x3), (4, .int x4)]) [2, 3, 4, 5, 6] rfl ?_
      exact bL_law_792 hL hk23 hf
    · rw [if_pos c13] at hf
      refine g_aload_n (j := 5) dL_law_780 rfl rfl ?_
      refine g_iconst (v := 0) dL_law_781 (by decide) ?_
      obtain ⟨v14, ev14, hf⟩ := hf
      refine g_jld dL_law_782 ev14 ?_
      refine g_iload (j := 0) dL_law_783 rfl ?_
      refine g_i2l dL_law_785 rfl ?_
      refine g_lcmp dL_law_786 ?_
      refine g_if_eq (tgt := 792) dL_law_787 (by decide) (fun c15 => ?_) (fun c15 => ?_)
      · rw [if_pos c15] at hf
        refine g_sub (L' := [(0, rv x0), (1, rv x1), (2, rv x2), (3, rv x3), (4, .int x4)]) [2, 3, 4, 5, 6] rfl ?_
        exact bL_law_792 hL hk23 hf
      · rw [if_neg c15] at hf
        refine g_iconst (v := 0) dL_law_790 (by decide) ?_
        exact hf.elim
  · rw [if_neg c12] at hf
    refine g_iconst (v := 0) dL_law_773 (by decide) ?_
    exact hf.elim

set_option maxRecDepth 100000 in
set_option maxHeartbeats 4000000 in
theorem bL_law_848 {X : Xt} {b c9 w9 : Nat} {tab : List ExceptionTableEntry} (hL : LH X b tab c9 w9) {k23 : St → Nat → Nat → Nat → Nat → Int32 → Prop} (hk23 : ∀ (σ : St) (x0 : Nat) (x1 : Nat) (x2 : Nat) (x3 : Nat) (x4 : Int32), k23 σ x0 x1 x2 x3 x4 → G MtL_law X σ 23 [(0, rv x0), (1, rv x1), (2, rv x2), (3, rv x3), (4, .int x4)] []) {σ : St} {x0 : Nat} {x1 : Nat} {x2 : Nat} {x3 : Nat} {x4 : Int32} (hf : pL_law_848 c9 w9 k23 σ x0 x1 x2 x3 x4) : G MtL_law X σ 848 [(0, rv x0), (1, rv x1), (2, rv x2), (3, rv x3), (4, .int x4)] [] := by
  unfold pL_law_848 at hf
  refine g_goto (tgt := 2380) dL_law_848 (by decide) ?_
  exact bL_law_2380 hL hk23 hf

set_option maxRecDepth 100000 in
set_option maxHeartbeats 4000000 in
theorem bL_law_795 {X : Xt} {b c9 w9 : Nat} {tab : List ExceptionTableEntry} (hL : LH X b tab c9 w9) {k23 : St → Nat → Nat → Nat → Nat → Int32 → Prop} (hk23 : ∀ (σ : St) (x0 : Nat) (x1 : Nat) (x2 : Nat) (x3 : Nat) (x4 : Int32), k23 σ x0 x1 x2 x3 x4 → G MtL_law X σ 23 [(0, rv x0), (1, rv x1), (2, rv x2), (3, rv x3), (4, .int x4)] []) {σ : St} {x0 : Nat} {x1 : Nat} {x2 : Nat} {x3 : Nat} {x4 : Int32} (hf : pL_law_795 c9 w9 k23 σ x0 x1 x2 x3 x4) : G MtL_law X σ 795 [(0, rv x0), (1, rv x1), (2, rv x2), (3, rv x3), (4, .int x4)] [] := by
  unfold pL_law_795 at hf
  refine g_aload_n (j := 1) dL_law_795 rfl rfl ?_
  refine g_aload_n (j := 0) dL_law_796 rfl rfl ?_
  refine g_iload (j := 4) dL_law_797 rfl ?_
  refine g_iconst (v := 1) dL_law_799 (by decide) ?_
  refine g_iadd dL_law_800 ?_
  obtain ⟨v1, ev1, hf⟩ := hf
  refine g_iald dL_law_801 ev1 ?_
  refine g_aload_n (j := 3) dL_law_802 rfl rfl ?_
  obtain ⟨σ2, v3, eσ2, hf⟩ := hf
  refine g_callW (n := 3) dL_law_803 (wL_keep _ hL.1 eσ2) ⟨t_1666, by decide, by decide, ⟨by decide, by decide⟩, by decide +kernel, t_0⟩ t_1664 t_1665 rfl (Nat.le_trans (cat_le _) (Nat.le_of_ble_eq_true rfl)) rfl (fun z4 hz4 => ?_)
  replace hf := hf z4 hz4
  refine g_istore (i := 5) (L' := [(5, .int v3), (0, rv x0), (1, rv x1), (2, rv x2), (3, rv x3), (4, .int x4)]) dL_law_806 (Nat.le_of_ble_eq_true rfl) rfl ?_
  refine g_aload_n (j := 3) dL_law_808 rfl rfl ?_
  refine g_aload_n (j := 1) dL_law_809 rfl rfl ?_
  refine g_iload (j := 5) dL_law_810 rfl ?_
  refine g_iconst (v := 1) dL_law_812 (by decide) ?_
  refine g_iadd dL_law_813 ?_
  obtain ⟨v5, ev5, hf⟩ := hf
  refine g_iald dL_law_814 ev5 ?_
  obtain ⟨_, h8, hf⟩ := hf
  obtain ⟨σ6, v7, eσ6, hf⟩ := hf
  refine g_callV_i dL_law_815 (wX12_keep _ eσ6) (okX12_keep _ (by decide) (by decide)) (ckK_el h8) hc16 t_2603 t_2604 t_2605 rfl (Nat.le_trans (cat_le _) (Nat.le_of_ble_eq_true rfl)) rfl ?_
  refine g_istore (i := 6) (L' := [(6, .int v7), (5, .int v3), (0, rv x0), (1, rv x1), (2, rv x2), (3, rv x3), (4, .int x4)]) dL_law_818 (Nat.le_of_ble_eq_true rfl) rfl ?_
  refine g_aload_n (j := 4) dL_law_820 rfl rfl ?_
  obtain ⟨_, h11, hf⟩ := hf
  obtain ⟨σ9, v10, eσ9, hf⟩ := hf
  refine g_callV_i dL_law_821 (wX12_thrown _ eσ9) (okX12_thrown _ (by decide) (by decide)) (ckK_el h11) hc16 t_1892 t_1893 t_1894 rfl (Nat.le_trans (cat_le _) (Nat.le_of_ble_eq_true rfl)) rfl ?_
  refine g_iload (j := 1) dL_law_824 rfl ?_
  refine g_icmp_eq (tgt := 831) dL_law_826 (by decide) (fun c12 => ?_) (fun c12 => ?_)
  · rw [if_pos c12] at hf
    refine g_iload (j := 1) dL_law_831 rfl ?_
    refine g_if_ne (tgt := 848) dL_law_833 (by decide) (fun c13 => ?_) (fun c13 => ?_)
    · rw [if_neg c13] at hf
      refine g_sub (L' := [(0, rv x0), (1, rv x1), (2, rv x2), (3, rv x3), (4, .int x4)]) [2, 3, 4, 5, 6] rfl ?_
      exact bL_law_848 hL hk23 hf
    · rw [if_pos c13] at hf
      refine g_aload_n (j := 5) dL_law_836 rfl rfl ?_
      refine g_iconst (v := 0) dL_law_837 (by decide) ?_
      obtain ⟨v14, ev14, hf⟩ := hf
      refine g_jld dL_law_838 ev14 ?_
      refine g_iload (j := 0) dL_law_839 rfl ?_
      refine g_i2l dL_law_841 rfl ?_
      refine g_lcmp dL_law_842 ?_
      refine g_if_eq (tgt := 848) dL_law_843 (by decide) (fun c15 => ?_) (fun c15 => ?_)
      · rw [if_pos c15] at hf
        refine g_sub (L' := [(0, rv x0), (1, rv x1), (2, rv x2), (3, rv x3), (4, .int x4)]) [2, 3, 4, 5, 6] rfl ?_
        exact bL_law_848 hL hk23 hf
      · rw [if_neg c15] at hf
        refine g_iconst (v := 0) dL_law_846 (by decide) ?_
        exact hf.elim
  · rw [if_neg c12] at hf
    refine g_iconst (v := 0) dL_law_829 (by decide) ?_
    exact hf.elim

set_option maxRecDepth 100000 in
set_option maxHeartbeats 4000000 in
theorem bL_law_904 {X : Xt} {b c9 w9 : Nat} {tab : List ExceptionTableEntry} (hL : LH X b tab c9 w9) {k23 : St → Nat → Nat → Nat → Nat → Int32 → Prop} (hk23 : ∀ (σ : St) (x0 : Nat) (x1 : Nat) (x2 : Nat) (x3 : Nat) (x4 : Int32), k23 σ x0 x1 x2 x3 x4 → G MtL_law X σ 23 [(0, rv x0), (1, rv x1), (2, rv x2), (3, rv x3), (4, .int x4)] []) {σ : St} {x0 : Nat} {x1 : Nat} {x2 : Nat} {x3 : Nat} {x4 : Int32} (hf : pL_law_904 c9 w9 k23 σ x0 x1 x2 x3 x4) : G MtL_law X σ 904 [(0, rv x0), (1, rv x1), (2, rv x2), (3, rv x3), (4, .int x4)] [] := by
  unfold pL_law_904 at hf
  refine g_goto (tgt := 2380) dL_law_904 (by decide) ?_
  exact bL_law_2380 hL hk23 hf

set_option maxRecDepth 100000 in
set_option maxHeartbeats 4000000 in
theorem bL_law_851 {X : Xt} {b c9 w9 : Nat} {tab : List ExceptionTableEntry} (hL : LH X b tab c9 w9) {k23 : St → Nat → Nat → Nat → Nat → Int32 → Prop} (hk23 : ∀ (σ : St) (x0 : Nat) (x1 : Nat) (x2 : Nat) (x3 : Nat) (x4 : Int32), k23 σ x0 x1 x2 x3 x4 → G MtL_law X σ 23 [(0, rv x0), (1, rv x1), (2, rv x2), (3, rv x3), (4, .int x4)] []) {σ : St} {x0 : Nat} {x1 : Nat} {x2 : Nat} {x3 : Nat} {x4 : Int32} (hf : pL_law_851 c9 w9 k23 σ x0 x1 x2 x3 x4) : G MtL_law X σ 851 [(0, rv x0), (1, rv x1), (2, rv x2), (3, rv x3), (4, .int x4)] [] := by
  unfold pL_law_851 at hf
  refine g_aload_n (j := 1) dL_law_851 rfl rfl ?_
  refine g_aload_n (j := 0) dL_law_852 rfl rfl ?_
  refine g_iload (j := 4) dL_law_853 rfl ?_
  refine g_iconst (v := 1) dL_law_855 (by decide) ?_
  refine g_iadd dL_law_856 ?_
  obtain ⟨v1, ev1, hf⟩ := hf
  refine g_iald dL_law_857 ev1 ?_
  refine g_aload_n (j := 3) dL_law_858 rfl rfl ?_
  obtain ⟨σ2, v3, eσ2, hf⟩ := hf
  refine g_callW (n := 3) dL_law_859 (wL_take _ hL.1 eσ2) ⟨t_1677, by decide, by decide, ⟨by decide, by decide⟩, by decide +kernel, t_0⟩ t_1675 t_1676 rfl (Nat.le_trans (cat_le _) (Nat.le_of_ble_eq_true rfl)) rfl (fun z4 hz4 => ?_)
  replace hf := hf z4 hz4
  refine g_istore (i := 5) (L' := [(5, .int v3), (0, rv x0), (1, rv x1), (2, rv x2), (3, rv x3), (4, .int x4)]) dL_law_862 (Nat.le_of_ble_eq_true rfl) rfl ?_
  refine g_aload_n (j := 3) dL_law_864 rfl rfl ?_
  refine g_aload_n (j := 1) dL_law_865 rfl rfl ?_
  refine g_iload (j := 5) dL_law_866 rfl ?_
  refine g_iconst (v := 1) dL_law_868 (by decide) ?_
  refine g_iadd dL_law_869 ?_
  obtain ⟨v5, ev5, hf⟩ := hf
  refine g_iald dL_law_870 ev5 ?_
  obtain ⟨_, h8, hf⟩ := hf
  obtain ⟨σ6, v7, eσ6, hf⟩ := hf
  refine g_callV_i dL_law_871 (wX12_take _ eσ6) (okX12_take _ (by decide) (by decide)) (ckK_el h8) hc16 t_2611 t_2612 t_2613 rfl (Nat.le_trans (cat_le _) (Nat.le_of_ble_eq_true rfl)) rfl ?_
  refine g_istore (i := 6) (L' := [(6, .int v7), (5, .int v3), (0, rv x0), (1, rv x1), (2, rv x2), (3, rv x3), (4, .int x4)]) dL_law_874 (Nat.le_of_ble_eq_true rfl) rfl ?_
  refine g_aload_n (j := 4) dL_law_876 rfl rfl ?_
  obtain ⟨_, h11, hf⟩ := hf
  obtain ⟨σ9, v10, eσ9, hf⟩ := hf
  refine g_callV_i dL_law_877 (wX12_thrown _ eσ9) (okX12_thrown _ (by decide) (by decide)) (ckK_el h11) hc16 t_1892 t_1893 t_1894 rfl (Nat.le_trans (cat_le _) (Nat.le_of_ble_eq_true rfl)) rfl ?_
  refine g_iload (j := 1) dL_law_880 rfl ?_
  refine g_icmp_eq (tgt := 887) dL_law_882 (by decide) (fun c12 => ?_) (fun c12 => ?_)
  · rw [if_pos c12] at hf
    refine g_iload (j := 1) dL_law_887 rfl ?_
    refine g_if_ne (tgt := 904) dL_law_889 (by decide) (fun c13 => ?_) (fun c13 => ?_)
    · rw [if_neg c13] at hf
      refine g_sub (L' := [(0, rv x0), (1, rv x1), (2, rv x2), (3, rv x3), (4, .int x4)]) [2, 3, 4, 5, 6] rfl ?_
      exact bL_law_904 hL hk23 hf
    · rw [if_pos c13] at hf
      refine g_aload_n (j := 5) dL_law_892 rfl rfl ?_
      refine g_iconst (v := 0) dL_law_893 (by decide) ?_
      obtain ⟨v14, ev14, hf⟩ := hf
      refine g_jld dL_law_894 ev14 ?_
      refine g_iload (j := 0) dL_law_895 rfl ?_
      refine g_i2l dL_law_897 rfl ?_
      refine g_lcmp dL_law_898 ?_
      refine g_if_eq (tgt := 904) dL_law_899 (by decide) (fun c15 => ?_) (fun c15 => ?_)
      · rw [if_pos c15] at hf
        refine g_sub (L' := [(0, rv x0), (1, rv x1), (2, rv x2), (3, rv x3), (4, .int x4)]) [2, 3, 4, 5, 6] rfl ?_
        exact bL_law_904 hL hk23 hf
      · rw [if_neg c15] at hf
        refine g_iconst (v := 0) dL_law_902 (by decide) ?_
        exact hf.elim
  · rw [if_neg c12] at hf
    refine g_iconst (v := 0) dL_law_885 (by decide) ?_
    exact hf.elim

set_option maxRecDepth 100000 in
set_option maxHeartbeats 4000000 in
theorem bL_law_972 {X : Xt} {b c9 w9 : Nat} {tab : List ExceptionTableEntry} (hL : LH X b tab c9 w9) {k23 : St → Nat → Nat → Nat → Nat → Int32 → Prop} (hk23 : ∀ (σ : St) (x0 : Nat) (x1 : Nat) (x2 : Nat) (x3 : Nat) (x4 : Int32), k23 σ x0 x1 x2 x3 x4 → G MtL_law X σ 23 [(0, rv x0), (1, rv x1), (2, rv x2), (3, rv x3), (4, .int x4)] []) {σ : St} {x0 : Nat} {x1 : Nat} {x2 : Nat} {x3 : Nat} {x4 : Int32} (hf : pL_law_972 c9 w9 k23 σ x0 x1 x2 x3 x4) : G MtL_law X σ 972 [(0, rv x0), (1, rv x1), (2, rv x2), (3, rv x3), (4, .int x4)] [] := by
  unfold pL_law_972 at hf
  refine g_goto (tgt := 2380) dL_law_972 (by decide) ?_
  exact bL_law_2380 hL hk23 hf

set_option maxRecDepth 100000 in
set_option maxHeartbeats 4000000 in
theorem bL_law_907 {X : Xt} {b c9 w9 : Nat} {tab : List ExceptionTableEntry} (hL : LH X b tab c9 w9) {k23 : St → Nat → Nat → Nat → Nat → Int32 → Prop} (hk23 : ∀ (σ : St) (x0 : Nat) (x1 : Nat) (x2 : Nat) (x3 : Nat) (x4 : Int32), k23 σ x0 x1 x2 x3 x4 → G MtL_law X σ 23 [(0, rv x0), (1, rv x1), (2, rv x2), (3, rv x3), (4, .int x4)] []) {σ : St} {x0 : Nat} {x1 : Nat} {x2 : Nat} {x3 : Nat} {x4 : Int32} (hf : pL_law_907 c9 w9 k23 σ x0 x1 x2 x3 x4) : G MtL_law X σ 907 [(0, rv x0), (1, rv x1), (2, rv x2), (3, rv x3), (4, .int x4)] [] := by
  unfold pL_law_907 at hf
  refine g_aload_n (j := 1) dL_law_907 rfl rfl ?_
  refine g_aload_n (j := 0) dL_law_908 rfl rfl ?_
  refine g_iload (j := 4) dL_law_909 rfl ?_
  refine g_iconst (v := 1) dL_law_911 (by decide) ?_
  refine g_iadd dL_law_912 ?_
  obtain ⟨v1, ev1, hf⟩ := hf
  refine g_iald dL_law_913 ev1 ?_
  refine g_aload_n (j := 0) dL_law_914 rfl rfl ?_
  refine g_iload (j := 4) dL_law_915 rfl ?_
  refine g_iconst (v := 2) dL_law_917 (by decide) ?_
  refine g_iadd dL_law_918 ?_
  obtain ⟨v2, ev2, hf⟩ := hf
  refine g_iald dL_law_919 ev2 ?_
  refine g_aload_n (j := 3) dL_law_920 rfl rfl ?_
  obtain ⟨σ3, v4, eσ3, hf⟩ := hf
  refine g_callW (n := 4) dL_law_921 (wL_compare _ hL.1 eσ3) ⟨t_1684, by decide, by decide, ⟨by decide, by decide⟩, by decide +kernel, t_0⟩ t_1682 t_1683 rfl (Nat.le_trans (cat_le _) (Nat.le_of_ble_eq_true rfl)) rfl (fun z5 hz5 => ?_)
  replace hf := hf z5 hz5
  refine g_istore (i := 5) (L' := [(5, .int v4), (0, rv x0), (1, rv x1), (2, rv x2), (3, rv x3), (4, .int x4)]) dL_law_924 (Nat.le_of_ble_eq_true rfl) rfl ?_
  refine g_aload_n (j := 3) dL_law_926 rfl rfl ?_
  refine g_aload_n (j := 1) dL_law_927 rfl rfl ?_
  refine g_iload (j := 5) dL_law_928 rfl ?_
  refine g_iconst (v := 1) dL_law_930 (by decide) ?_
  refine g_iadd dL_law_931 ?_
  obtain ⟨v6, ev6, hf⟩ := hf
  refine g_iald dL_law_932 ev6 ?_
  refine g_aload_n (j := 1) dL_law_933 rfl rfl ?_
  refine g_iload (j := 5) dL_law_934 rfl ?_
  refine g_iconst (v := 2) dL_law_936 (by decide) ?_
  refine g_iadd dL_law_937 ?_
  obtain ⟨v7, ev7, hf⟩ := hf
  refine g_iald dL_law_938 ev7 ?_
  obtain ⟨_, h10, hf⟩ := hf
  obtain ⟨σ8, v9, eσ8, hf⟩ := hf
  refine g_callV_i dL_law_939 (wX12_compare _ eσ8) (okX12_compare _ (by decide) (by decide)) (ckK_el h10) hc16 t_2619 t_2620 t_2621 rfl (Nat.le_trans (cat_le _) (Nat.le_of_ble_eq_true rfl)) rfl ?_
  refine g_istore (i := 6) (L' := [(6, .int v9), (5, .int v4), (0, rv x0), (1, rv x1), (2, rv x2), (3, rv x3), (4, .int x4)]) dL_law_942 (Nat.le_of_ble_eq_true rfl) rfl ?_
  refine g_aload_n (j := 4) dL_law_944 rfl rfl ?_
  obtain ⟨_, h13, hf⟩ := hf
  obtain ⟨σ11, v12, eσ11, hf⟩ := hf
  refine g_callV_i dL_law_945 (wX12_thrown _ eσ11) (okX12_thrown _ (by decide) (by decide)) (ckK_el h13) hc16 t_1892 t_1893 t_1894 rfl (Nat.le_trans (cat_le _) (Nat.le_of_ble_eq_true rfl)) rfl ?_
  refine g_iload (j := 1) dL_law_948 rfl ?_
  refine g_icmp_eq (tgt := 955) dL_law_950 (by decide) (fun c14 => ?_) (fun c14 => ?_)
  · rw [if_pos c14] at hf
    refine g_iload (j := 1) dL_law_955 rfl ?_
    refine g_if_ne (tgt := 972) dL_law_957 (by decide) (fun c15 => ?_) (fun c15 => ?_)
    · rw [if_neg c15] at hf
      refine g_sub (L' := [(0, rv x0), (1, rv x1), (2, rv x2), (3, rv x3), (4, .int x4)]) [2, 3, 4, 5, 6] rfl ?_
      exact bL_law_972 hL hk23 hf
    · rw [if_pos c15] at hf
      refine g_aload_n (j := 5) dL_law_960 rfl rfl ?_
      refine g_iconst (v := 0) dL_law_961 (by decide) ?_
      obtain ⟨v16, ev16, hf⟩ := hf
      refine g_jld dL_law_962 ev16 ?_
      refine g_iload (j := 0) dL_law_963 rfl ?_
      refine g_i2l dL_law_965 rfl ?_
      refine g_lcmp dL_law_966 ?_
      refine g_if_eq (tgt := 972) dL_law_967 (by decide) (fun c17 => ?_) (fun c17 => ?_)
      · rw [if_pos c17] at hf
        refine g_sub (L' := [(0, rv x0), (1, rv x1), (2, rv x2), (3, rv x3), (4, .int x4)]) [2, 3, 4, 5, 6] rfl ?_
        exact bL_law_972 hL hk23 hf
      · rw [if_neg c17] at hf
        refine g_iconst (v := 0) dL_law_970 (by decide) ?_
        exact hf.elim
  · rw [if_neg c14] at hf
    refine g_iconst (v := 0) dL_law_953 (by decide) ?_
    exact hf.elim

set_option maxRecDepth 100000 in
set_option maxHeartbeats 4000000 in
theorem bL_law_975 {X : Xt} {b c9 w9 : Nat} {tab : List ExceptionTableEntry} (hL : LH X b tab c9 w9) {k23 : St → Nat → Nat → Nat → Nat → Int32 → Prop} (hk23 : ∀ (σ : St) (x0 : Nat) (x1 : Nat) (x2 : Nat) (x3 : Nat) (x4 : Int32), k23 σ x0 x1 x2 x3 x4 → G MtL_law X σ 23 [(0, rv x0), (1, rv x1), (2, rv x2), (3, rv x3), (4, .int x4)] []) {σ : St} {x0 : Nat} {x1 : Nat} {x2 : Nat} {x3 : Nat} {x4 : Int32} (hf : pL_law_975 c9 w9 k23 σ x0 x1 x2 x3 x4) : G MtL_law X σ 975 [(0, rv x0), (1, rv x1), (2, rv x2), (3, rv x3), (4, .int x4)] [] := by
  unfold pL_law_975 at hf
  refine g_aload_n (j := 1) dL_law_975 rfl rfl ?_
  obtain ⟨_, h3, hf⟩ := hf
  obtain ⟨σ1, v2, eσ1, hf⟩ := hf
  refine g_callV_i dL_law_976 (wX11_names _ eσ1) (okX11_names _ (by decide) (by decide)) (ckK_el h3) hc15 t_955 t_956 t_957 rfl (Nat.le_trans (cat_le _) (Nat.le_of_ble_eq_true rfl)) rfl ?_
  refine g_aload_n (j := 2) dL_law_979 rfl rfl ?_
  obtain ⟨_, h6, hf⟩ := hf
  obtain ⟨σ4, v5, eσ4, hf⟩ := hf
  refine g_callV_i dL_law_980 (wX12_names _ eσ4) (okX12_names _ (by decide) (by decide)) (ckK_el h6) hc16 t_2623 t_2624 t_2625 rfl (Nat.le_trans (cat_le _) (Nat.le_of_ble_eq_true rfl)) rfl ?_
  refine g_icmp_eq (tgt := 2380) dL_law_983 (by decide) (fun c7 => ?_) (fun c7 => ?_)
  · rw [if_pos c7] at hf
    exact bL_law_2380 hL hk23 hf
  · rw [if_neg c7] at hf
    refine g_iconst (v := 0) dL_law_986 (by decide) ?_
    exact hf.elim

set_option maxRecDepth 100000 in
set_option maxHeartbeats 4000000 in
theorem bL_law_1041 {X : Xt} {b c9 w9 : Nat} {tab : List ExceptionTableEntry} (hL : LH X b tab c9 w9) {k23 : St → Nat → Nat → Nat → Nat → Int32 → Prop} (hk23 : ∀ (σ : St) (x0 : Nat) (x1 : Nat) (x2 : Nat) (x3 : Nat) (x4 : Int32), k23 σ x0 x1 x2 x3 x4 → G MtL_law X σ 23 [(0, rv x0), (1, rv x1), (2, rv x2), (3, rv x3), (4, .int x4)] []) {σ : St} {x0 : Nat} {x1 : Nat} {x2 : Nat} {x3 : Nat} {x4 : Int32} (hf : pL_law_1041 c9 w9 k23 σ x0 x1 x2 x3 x4) : G MtL_law X σ 1041 [(0, rv x0), (1, rv x1), (2, rv x2), (3, rv x3), (4, .int x4)] [] := by
  unfold pL_law_1041 at hf
  refine g_goto (tgt := 2380) dL_law_1041 (by decide) ?_
  exact bL_law_2380 hL hk23 hf

set_option maxRecDepth 100000 in
set_option maxHeartbeats 4000000 in
theorem bL_law_988 {X : Xt} {b c9 w9 : Nat} {tab : List ExceptionTableEntry} (hL : LH X b tab c9 w9) {k23 : St → Nat → Nat → Nat → Nat → Int32 → Prop} (hk23 : ∀ (σ : St) (x0 : Nat) (x1 : Nat) (x2 : Nat) (x3 : Nat) (x4 : Int32), k23 σ x0 x1 x2 x3 x4 → G MtL_law X σ 23 [(0, rv x0), (1, rv x1), (2, rv x2), (3, rv x3), (4, .int x4)] []) {σ : St} {x0 : Nat} {x1 : Nat} {x2 : Nat} {x3 : Nat} {x4 : Int32} (hf : pL_law_988 c9 w9 k23 σ x0 x1 x2 x3 x4) : G MtL_law X σ 988 [(0, rv x0), (1, rv x1), (2, rv x2), (3, rv x3), (4, .int x4)] [] := by
  unfold pL_law_988 at hf
  refine g_aload_n (j := 1) dL_law_988 rfl rfl ?_
  refine g_aload_n (j := 0) dL_law_989 rfl rfl ?_
  refine g_iload (j := 4) dL_law_990 rfl ?_
  refine g_iconst (v := 1) dL_law_992 (by decide) ?_
  refine g_iadd dL_law_993 ?_
  obtain ⟨v1, ev1, hf⟩ := hf
  refine g_iald dL_law_994 ev1 ?_
  refine g_aload_n (j := 3) dL_law_995 rfl rfl ?_
  obtain ⟨σ2, v3, eσ2, hf⟩ := hf
  refine g_callW (n := 3) dL_law_996 (wL_nameAt _ hL.1 eσ2) ⟨t_1692, by decide, by decide, ⟨by decide, by decide⟩, by decide +kernel, t_0⟩ t_1690 t_1691 rfl (Nat.le_trans (cat_le _) (Nat.le_of_ble_eq_true rfl)) rfl (fun z4 hz4 => ?_)
  replace hf := hf z4 hz4
  refine g_istore (i := 5) (L' := [(5, .int v3), (0, rv x0), (1, rv x1), (2, rv x2), (3, rv x3), (4, .int x4)]) dL_law_999 (Nat.le_of_ble_eq_true rfl) rfl ?_
  refine g_aload_n (j := 3) dL_law_1001 rfl rfl ?_
  refine g_aload_n (j := 1) dL_law_1002 rfl rfl ?_
  refine g_iload (j := 5) dL_law_1003 rfl ?_
  refine g_iconst (v := 1) dL_law_1005 (by decide) ?_
  refine g_iadd dL_law_1006 ?_
  obtain ⟨v5, ev5, hf⟩ := hf
  refine g_iald dL_law_1007 ev5 ?_
  obtain ⟨_, h8, hf⟩ := hf
  obtain ⟨σ6, v7, eσ6, hf⟩ := hf
  refine g_callV_i dL_law_1008 (wX12_nameAt _ eσ6) (okX12_nameAt _ (by decide) (by decide)) (ckK_el h8) hc16 t_2627 t_2628 t_2629 rfl (Nat.le_trans (cat_le _) (Nat.le_of_ble_eq_true rfl)) rfl ?_
  refine g_istore (i := 6) (L' := [(6, .int v7), (5, .int v3), (0, rv x0), (1, rv x1), (2, rv x2), (3, rv x3), (4, .int x4)]) dL_law_1011 (Nat.le_of_ble_eq_true rfl) rfl ?_
  refine g_aload_n (j := 4) dL_law_1013 rfl rfl ?_
  obtain ⟨_, h11, hf⟩ := hf
  obtain ⟨σ9, v10, eσ9, hf⟩ := hf
  refine g_callV_i dL_law_1014 (wX12_thrown _ eσ9) (okX12_thrown _ (by decide) (by decide)) (ckK_el h11) hc16 t_1892 t_1893 t_1894 rfl (Nat.le_trans (cat_le _) (Nat.le_of_ble_eq_true rfl)) rfl ?_
  refine g_iload (j := 1) dL_law_1017 rfl ?_
  refine g_icmp_eq (tgt := 1024) dL_law_1019 (by decide) (fun c12 => ?_) (fun c12 => ?_)
  · rw [if_pos c12] at hf
    refine g_iload (j := 1) dL_law_1024 rfl ?_
    refine g_if_ne (tgt := 1041) dL_law_1026 (by decide) (fun c13 => ?_) (fun c13 => ?_)
    · rw [if_neg c13] at hf
      refine g_sub (L' := [(0, rv x0), (1, rv x1), (2, rv x2), (3, rv x3), (4, .int x4)]) [2, 3, 4, 5, 6] rfl ?_
      exact bL_law_1041 hL hk23 hf
    · rw [if_pos c13] at hf
      refine g_aload_n (j := 5) dL_law_1029 rfl rfl ?_
      refine g_iconst (v := 0) dL_law_1030 (by decide) ?_
      obtain ⟨v14, ev14, hf⟩ := hf
      refine g_jld dL_law_1031 ev14 ?_
      refine g_iload (j := 0) dL_law_1032 rfl ?_
      refine g_i2l dL_law_1034 rfl ?_
      refine g_lcmp dL_law_1035 ?_
      refine g_if_eq (tgt := 1041) dL_law_1036 (by decide) (fun c15 => ?_) (fun c15 => ?_)
      · rw [if_pos c15] at hf
        refine g_sub (L' := [(0, rv x0), (1, rv x1), (2, rv x2), (3, rv x3), (4, .int x4)]) [2, 3, 4, 5, 6] rfl ?_
        exact bL_law_1041 hL hk23 hf
      · rw [if_neg c15] at hf
        refine g_iconst (v := 0) dL_law_1039 (by decide) ?_
        exact hf.elim
  · rw [if_neg c12] at hf
    refine g_iconst (v := 0) dL_law_1022 (by decide) ?_
    exact hf.elim

set_option maxRecDepth 100000 in
set_option maxHeartbeats 4000000 in
theorem bL_law_1097 {X : Xt} {b c9 w9 : Nat} {tab : List ExceptionTableEntry} (hL : LH X b tab c9 w9) {k23 : St → Nat → Nat → Nat → Nat → Int32 → Prop} (hk23 : ∀ (σ : St) (x0 : Nat) (x1 : Nat) (x2 : Nat) (x3 : Nat) (x4 : Int32), k23 σ x0 x1 x2 x3 x4 → G MtL_law X σ 23 [(0, rv x0), (1, rv x1), (2, rv x2), (3, rv x3), (4, .int x4)] []) {σ : St} {x0 : Nat} {x1 : Nat} {x2 : Nat} {x3 : Nat} {x4 : Int32} (hf : pL_law_1097 c9 w9 k23 σ x0 x1 x2 x3 x4) : G MtL_law X σ 1097 [(0, rv x0), (1, rv x1), (2, rv x2), (3, rv x3), (4, .int x4)] [] := by
  unfold pL_law_1097 at hf
  refine g_goto (tgt := 2380) dL_law_1097 (by decide) ?_
  exact bL_law_2380 hL hk23 hf

set_option maxRecDepth 100000 in
set_option maxHeartbeats 4000000 in
theorem bL_law_1044 {X : Xt} {b c9 w9 : Nat} {tab : List ExceptionTableEntry} (hL : LH X b tab c9 w9) {k23 : St → Nat → Nat → Nat → Nat → Int32 → Prop} (hk23 : ∀ (σ : St) (x0 : Nat) (x1 : Nat) (x2 : Nat) (x3 : Nat) (x4 : Int32), k23 σ x0 x1 x2 x3 x4 → G MtL_law X σ 23 [(0, rv x0), (1, rv x1), (2, rv x2), (3, rv x3), (4, .int x4)] []) {σ : St} {x0 : Nat} {x1 : Nat} {x2 : Nat} {x3 : Nat} {x4 : Int32} (hf : pL_law_1044 c9 w9 k23 σ x0 x1 x2 x3 x4) : G MtL_law X σ 1044 [(0, rv x0), (1, rv x1), (2, rv x2), (3, rv x3), (4, .int x4)] [] := by
  unfold pL_law_1044 at hf
  refine g_aload_n (j := 1) dL_law_1044 rfl rfl ?_
  refine g_aload_n (j := 0) dL_law_1045 rfl rfl ?_
  refine g_iload (j := 4) dL_law_1046 rfl ?_
  refine g_iconst (v := 1) dL_law_1048 (by decide) ?_
  refine g_iadd dL_law_1049 ?_
  obtain ⟨v1, ev1, hf⟩ := hf
  refine g_iald dL_law_1050 ev1 ?_
  refine g_aload_n (j := 3) dL_law_1051 rfl rfl ?_
  obtain ⟨σ2, v3, eσ2, hf⟩ := hf
  refine g_callW (n := 3) dL_law_1052 (wL_takeName _ hL.1 eσ2) ⟨t_1699, by decide, by decide, ⟨by decide, by decide⟩, by decide +kernel, t_0⟩ t_1697 t_1698 rfl (Nat.le_trans (cat_le _) (Nat.le_of_ble_eq_true rfl)) rfl (fun z4 hz4 => ?_)
  replace hf := hf z4 hz4
  refine g_istore (i := 5) (L' := [(5, .int v3), (0, rv x0), (1, rv x1), (2, rv x2), (3, rv x3), (4, .int x4)]) dL_law_1055 (Nat.le_of_ble_eq_true rfl) rfl ?_
  refine g_aload_n (j := 3) dL_law_1057 rfl rfl ?_
  refine g_aload_n (j := 1) dL_law_1058 rfl rfl ?_
  refine g_iload (j := 5) dL_law_1059 rfl ?_
  refine g_iconst (v := 1) dL_law_1061 (by decide) ?_
  refine g_iadd dL_law_1062 ?_
  obtain ⟨v5, ev5, hf⟩ := hf
  refine g_iald dL_law_1063 ev5 ?_
  obtain ⟨_, h8, hf⟩ := hf
  obtain ⟨σ6, v7, eσ6, hf⟩ := hf
  refine g_callV_i dL_law_1064 (wX12_takeName _ eσ6) (okX12_takeName _ (by decide) (by decide)) (ckK_el h8) hc16 t_2631 t_2632 t_2633 rfl (Nat.le_trans (cat_le _) (Nat.le_of_ble_eq_true rfl)) rfl ?_
  refine g_istore (i := 6) (L' := [(6, .int v7), (5, .int v3), (0, rv x0), (1, rv x1), (2, rv x2), (3, rv x3), (4, .int x4)]) dL_law_1067 (Nat.le_of_ble_eq_true rfl) rfl ?_
  refine g_aload_n (j := 4) dL_law_1069 rfl rfl ?_
  obtain ⟨_, h11, hf⟩ := hf
  obtain ⟨σ9, v10, eσ9, hf⟩ := hf
  refine g_callV_i dL_law_1070 (wX12_thrown _ eσ9) (okX12_thrown _ (by decide) (by decide)) (ckK_el h11) hc16 t_1892 t_1893 t_1894 rfl (Nat.le_trans (cat_le _) (Nat.le_of_ble_eq_true rfl)) rfl ?_
  refine g_iload (j := 1) dL_law_1073 rfl ?_
  refine g_icmp_eq (tgt := 1080) dL_law_1075 (by decide) (fun c12 => ?_) (fun c12 => ?_)
  · rw [if_pos c12] at hf
    refine g_iload (j := 1) dL_law_1080 rfl ?_
    refine g_if_ne (tgt := 1097) dL_law_1082 (by decide) (fun c13 => ?_) (fun c13 => ?_)
    · rw [if_neg c13] at hf
      refine g_sub (L' := [(0, rv x0), (1, rv x1), (2, rv x2), (3, rv x3), (4, .int x4)]) [2, 3, 4, 5, 6] rfl ?_
      exact bL_law_1097 hL hk23 hf
    · rw [if_pos c13] at hf
      refine g_aload_n (j := 5) dL_law_1085 rfl rfl ?_
      refine g_iconst (v := 0) dL_law_1086 (by decide) ?_
      obtain ⟨v14, ev14, hf⟩ := hf
      refine g_jld dL_law_1087 ev14 ?_
      refine g_iload (j := 0) dL_law_1088 rfl ?_
      refine g_i2l dL_law_1090 rfl ?_
      refine g_lcmp dL_law_1091 ?_
      refine g_if_eq (tgt := 1097) dL_law_1092 (by decide) (fun c15 => ?_) (fun c15 => ?_)
      · rw [if_pos c15] at hf
        refine g_sub (L' := [(0, rv x0), (1, rv x1), (2, rv x2), (3, rv x3), (4, .int x4)]) [2, 3, 4, 5, 6] rfl ?_
        exact bL_law_1097 hL hk23 hf
      · rw [if_neg c15] at hf
        refine g_iconst (v := 0) dL_law_1095 (by decide) ?_
        exact hf.elim
  · rw [if_neg c12] at hf
    refine g_iconst (v := 0) dL_law_1078 (by decide) ?_
    exact hf.elim

set_option maxRecDepth 100000 in
set_option maxHeartbeats 4000000 in
theorem bL_law_1100 {X : Xt} {b c9 w9 : Nat} {tab : List ExceptionTableEntry} (hL : LH X b tab c9 w9) {k23 : St → Nat → Nat → Nat → Nat → Int32 → Prop} (hk23 : ∀ (σ : St) (x0 : Nat) (x1 : Nat) (x2 : Nat) (x3 : Nat) (x4 : Int32), k23 σ x0 x1 x2 x3 x4 → G MtL_law X σ 23 [(0, rv x0), (1, rv x1), (2, rv x2), (3, rv x3), (4, .int x4)] []) {σ : St} {x0 : Nat} {x1 : Nat} {x2 : Nat} {x3 : Nat} {x4 : Int32} (hf : pL_law_1100 c9 w9 k23 σ x0 x1 x2 x3 x4) : G MtL_law X σ 1100 [(0, rv x0), (1, rv x1), (2, rv x2), (3, rv x3), (4, .int x4)] [] := by
  unfold pL_law_1100 at hf
  refine g_aload_n (j := 1) dL_law_1100 rfl rfl ?_
  obtain ⟨_, h3, hf⟩ := hf
  obtain ⟨σ1, v2, eσ1, hf⟩ := hf
  refine g_callV_i dL_law_1101 (wX11_functions _ eσ1) (okX11_functions _ (by decide) (by decide)) (ckK_el h3) hc15 t_963 t_964 t_965 rfl (Nat.le_trans (cat_le _) (Nat.le_of_ble_eq_true rfl)) rfl ?_
  refine g_aload_n (j := 2) dL_law_1104 rfl rfl ?_
  obtain ⟨_, h6, hf⟩ := hf
  obtain ⟨σ4, v5, eσ4, hf⟩ := hf
  refine g_callV_i dL_law_1105 (wX12_functions _ eσ4) (okX12_functions _ (by decide) (by decide)) (ckK_el h6) hc16 t_2635 t_2636 t_2637 rfl (Nat.le_trans (cat_le _) (Nat.le_of_ble_eq_true rfl)) rfl ?_
  refine g_icmp_eq (tgt := 2380) dL_law_1108 (by decide) (fun c7 => ?_) (fun c7 => ?_)
  · rw [if_pos c7] at hf
    exact bL_law_2380 hL hk23 hf
  · rw [if_neg c7] at hf
    refine g_iconst (v := 0) dL_law_1111 (by decide) ?_
    exact hf.elim

set_option maxRecDepth 100000 in
set_option maxHeartbeats 4000000 in
theorem bL_law_1166 {X : Xt} {b c9 w9 : Nat} {tab : List ExceptionTableEntry} (hL : LH X b tab c9 w9) {k23 : St → Nat → Nat → Nat → Nat → Int32 → Prop} (hk23 : ∀ (σ : St) (x0 : Nat) (x1 : Nat) (x2 : Nat) (x3 : Nat) (x4 : Int32), k23 σ x0 x1 x2 x3 x4 → G MtL_law X σ 23 [(0, rv x0), (1, rv x1), (2, rv x2), (3, rv x3), (4, .int x4)] []) {σ : St} {x0 : Nat} {x1 : Nat} {x2 : Nat} {x3 : Nat} {x4 : Int32} (hf : pL_law_1166 c9 w9 k23 σ x0 x1 x2 x3 x4) : G MtL_law X σ 1166 [(0, rv x0), (1, rv x1), (2, rv x2), (3, rv x3), (4, .int x4)] [] := by
  unfold pL_law_1166 at hf
  refine g_goto (tgt := 2380) dL_law_1166 (by decide) ?_
  exact bL_law_2380 hL hk23 hf

set_option maxRecDepth 100000 in
set_option maxHeartbeats 4000000 in
theorem bL_law_1113 {X : Xt} {b c9 w9 : Nat} {tab : List ExceptionTableEntry} (hL : LH X b tab c9 w9) {k23 : St → Nat → Nat → Nat → Nat → Int32 → Prop} (hk23 : ∀ (σ : St) (x0 : Nat) (x1 : Nat) (x2 : Nat) (x3 : Nat) (x4 : Int32), k23 σ x0 x1 x2 x3 x4 → G MtL_law X σ 23 [(0, rv x0), (1, rv x1), (2, rv x2), (3, rv x3), (4, .int x4)] []) {σ : St} {x0 : Nat} {x1 : Nat} {x2 : Nat} {x3 : Nat} {x4 : Int32} (hf : pL_law_1113 c9 w9 k23 σ x0 x1 x2 x3 x4) : G MtL_law X σ 1113 [(0, rv x0), (1, rv x1), (2, rv x2), (3, rv x3), (4, .int x4)] [] := by
  unfold pL_law_1113 at hf
  refine g_aload_n (j := 1) dL_law_1113 rfl rfl ?_
  refine g_aload_n (j := 0) dL_law_1114 rfl rfl ?_
  refine g_iload (j := 4) dL_law_1115 rfl ?_
  refine g_iconst (v := 1) dL_law_1117 (by decide) ?_
  refine g_iadd dL_law_1118 ?_
  obtain ⟨v1, ev1, hf⟩ := hf
  refine g_iald dL_law_1119 ev1 ?_
  refine g_aload_n (j := 3) dL_law_1120 rfl rfl ?_
  obtain ⟨σ2, v3, eσ2, hf⟩ := hf
  refine g_callW (n := 3) dL_law_1121 (wL_parameters _ hL.1 eσ2) ⟨t_1722, by decide, by decide, ⟨by decide, by decide⟩, by decide +kernel, t_0⟩ t_1720 t_1721 rfl (Nat.le_trans (cat_le _) (Nat.le_of_ble_eq_true rfl)) rfl (fun z4 hz4 => ?_)
  replace hf := hf z4 hz4
  refine g_istore (i := 5) (L' := [(5, .int v3), (0, rv x0), (1, rv x1), (2, rv x2), (3, rv x3), (4, .int x4)]) dL_law_1124 (Nat.le_of_ble_eq_true rfl) rfl ?_
  refine g_aload_n (j := 3) dL_law_1126 rfl rfl ?_
  refine g_aload_n (j := 1) dL_law_1127 rfl rfl ?_
  refine g_iload (j := 5) dL_law_1128 rfl ?_
  refine g_iconst (v := 1) dL_law_1130 (by decide) ?_
  refine g_iadd dL_law_1131 ?_
  obtain ⟨v5, ev5, hf⟩ := hf
  refine g_iald dL_law_1132 ev5 ?_
  obtain ⟨_, h8, hf⟩ := hf
  obtain ⟨σ6, v7, eσ6, hf⟩ := hf
  refine g_callV_i dL_law_1133 (wX12_parameters _ eσ6) (okX12_parameters _ (by decide) (by decide)) (ckK_el h8) hc16 t_2639 t_2640 t_2641 rfl (Nat.le_trans (cat_le _) (Nat.le_of_ble_eq_true rfl)) rfl ?_
  refine g_istore (i := 6) (L' := [(6, .int v7), (5, .int v3), (0, rv x0), (1, rv x1), (2, rv x2), (3, rv x3), (4, .int x4)]) dL_law_1136 (Nat.le_of_ble_eq_true rfl) rfl ?_
  refine g_aload_n (j := 4) dL_law_1138 rfl rfl ?_
  obtain ⟨_, h11, hf⟩ := hf
  obtain ⟨σ9, v10, eσ9, hf⟩ := hf
  refine g_callV_i dL_law_1139 (wX12_thrown _ eσ9) (okX12_thrown _ (by decide) (by decide)) (ckK_el h11) hc16 t_1892 t_1893 t_1894 rfl (Nat.le_trans (cat_le _) (Nat.le_of_ble_eq_true rfl)) rfl ?_
  refine g_iload (j := 1) dL_law_1142 rfl ?_
  refine g_icmp_eq (tgt := 1149) dL_law_1144 (by decide) (fun c12 => ?_) (fun c12 => ?_)
  · rw [if_pos c12] at hf
    refine g_iload (j := 1) dL_law_1149 rfl ?_
    refine g_if_ne (tgt := 1166) dL_law_1151 (by decide) (fun c13 => ?_) (fun c13 => ?_)
    · rw [if_neg c13] at hf
      refine g_sub (L' := [(0, rv x0), (1, rv x1), (2, rv x2), (3, rv x3), (4, .int x4)]) [2, 3, 4, 5, 6] rfl ?_
      exact bL_law_1166 hL hk23 hf
    · rw [if_pos c13] at hf
      refine g_aload_n (j := 5) dL_law_1154 rfl rfl ?_
      refine g_iconst (v := 0) dL_law_1155 (by decide) ?_
      obtain ⟨v14, ev14, hf⟩ := hf
      refine g_jld dL_law_1156 ev14 ?_
      refine g_iload (j := 0) dL_law_1157 rfl ?_
      refine g_i2l dL_law_1159 rfl ?_
      refine g_lcmp dL_law_1160 ?_
      refine g_if_eq (tgt := 1166) dL_law_1161 (by decide) (fun c15 => ?_) (fun c15 => ?_)
      · rw [if_pos c15] at hf
        refine g_sub (L' := [(0, rv x0), (1, rv x1), (2, rv x2), (3, rv x3), (4, .int x4)]) [2, 3, 4, 5, 6] rfl ?_
        exact bL_law_1166 hL hk23 hf
      · rw [if_neg c15] at hf
        refine g_iconst (v := 0) dL_law_1164 (by decide) ?_
        exact hf.elim
  · rw [if_neg c12] at hf
    refine g_iconst (v := 0) dL_law_1147 (by decide) ?_
    exact hf.elim

set_option maxRecDepth 100000 in
set_option maxHeartbeats 4000000 in
theorem bL_law_1254 {X : Xt} {b c9 w9 : Nat} {tab : List ExceptionTableEntry} (hL : LH X b tab c9 w9) {k23 : St → Nat → Nat → Nat → Nat → Int32 → Prop} (hk23 : ∀ (σ : St) (x0 : Nat) (x1 : Nat) (x2 : Nat) (x3 : Nat) (x4 : Int32), k23 σ x0 x1 x2 x3 x4 → G MtL_law X σ 23 [(0, rv x0), (1, rv x1), (2, rv x2), (3, rv x3), (4, .int x4)] []) {σ : St} {x0 : Nat} {x1 : Nat} {x2 : Nat} {x3 : Nat} {x4 : Int32} {y0 : Int32} {y1 : Nat} {y2 : Int32} {y3 : Int32} {y4 : Int32} {y5 : Int32} (hf : pL_law_1254 c9 w9 k23 σ x0 x1 x2 x3 x4 y0 y1 y2 y3 y4 y5) : G MtL_law X σ 1254 [(0, rv x0), (1, rv x1), (2, rv x2), (3, rv x3), (4, .int x4)] [.int y5, .int y4, .int y3, .int y2, rv y1, .int y0] := by
  unfold pL_law_1254 at hf
  obtain ⟨_, h3, hf⟩ := hf
  obtain ⟨σ1, v2, eσ1, hf⟩ := hf
  refine g_callV_i dL_law_1254 (wX12_uses _ eσ1) (okX12_uses _ (by decide) (by decide)) (ckK_el h3) hc16 t_2643 t_2644 t_2645 rfl (Nat.le_trans (cat_le _) (Nat.le_of_ble_eq_true rfl)) rfl ?_
  refine g_icmp_eq (tgt := 2380) dL_law_1257 (by decide) (fun c4 => ?_) (fun c4 => ?_)
  · rw [if_pos c4] at hf
    exact bL_law_2380 hL hk23 hf
  · rw [if_neg c4] at hf
    refine g_iconst (v := 0) dL_law_1260 (by decide) ?_
    exact hf.elim

set_option maxRecDepth 100000 in
set_option maxHeartbeats 4000000 in
theorem bL_law_1234 {X : Xt} {b c9 w9 : Nat} {tab : List ExceptionTableEntry} (hL : LH X b tab c9 w9) {k23 : St → Nat → Nat → Nat → Nat → Int32 → Prop} (hk23 : ∀ (σ : St) (x0 : Nat) (x1 : Nat) (x2 : Nat) (x3 : Nat) (x4 : Int32), k23 σ x0 x1 x2 x3 x4 → G MtL_law X σ 23 [(0, rv x0), (1, rv x1), (2, rv x2), (3, rv x3), (4, .int x4)] []) {σ : St} {x0 : Nat} {x1 : Nat} {x2 : Nat} {x3 : Nat} {x4 : Int32} {y0 : Int32} {y1 : Nat} {y2 : Int32} {y3 : Int32} (hf : pL_law_1234 c9 w9 k23 σ x0 x1 x2 x3 x4 y0 y1 y2 y3) : G MtL_law X σ 1234 [(0, rv x0), (1, rv x1), (2, rv x2), (3, rv x3), (4, .int x4)] [.int y3, .int y2, rv y1, .int y0] := by
  unfold pL_law_1234 at hf
  refine g_aload_n (j := 0) dL_law_1234 rfl rfl ?_
  refine g_iload (j := 4) dL_law_1235 rfl ?_
  refine g_iconst (v := 3) dL_law_1237 (by decide) ?_
  refine g_iadd dL_law_1238 ?_
  obtain ⟨v1, ev1, hf⟩ := hf
  refine g_iald dL_law_1239 ev1 ?_
  refine g_aload_n (j := 0) dL_law_1240 rfl rfl ?_
  refine g_iload (j := 4) dL_law_1241 rfl ?_
  refine g_iconst (v := 4) dL_law_1243 (by decide) ?_
  refine g_iadd dL_law_1244 ?_
  obtain ⟨v2, ev2, hf⟩ := hf
  refine g_iald dL_law_1245 ev2 ?_
  refine g_if_eq (tgt := 1253) dL_law_1246 (by decide) (fun c3 => ?_) (fun c3 => ?_)
  · rw [if_pos c3] at hf
    refine g_iconst (v := 0) dL_law_1253 (by decide) ?_
    exact bL_law_1254 hL hk23 hf
  · rw [if_neg c3] at hf
    refine g_iconst (v := 1) dL_law_1249 (by decide) ?_
    refine g_goto (tgt := 1254) dL_law_1250 (by decide) ?_
    exact bL_law_1254 hL hk23 hf

set_option maxRecDepth 100000 in
set_option maxHeartbeats 4000000 in
theorem bL_law_1210 {X : Xt} {b c9 w9 : Nat} {tab : List ExceptionTableEntry} (hL : LH X b tab c9 w9) {k23 : St → Nat → Nat → Nat → Nat → Int32 → Prop} (hk23 : ∀ (σ : St) (x0 : Nat) (x1 : Nat) (x2 : Nat) (x3 : Nat) (x4 : Int32), k23 σ x0 x1 x2 x3 x4 → G MtL_law X σ 23 [(0, rv x0), (1, rv x1), (2, rv x2), (3, rv x3), (4, .int x4)] []) {σ : St} {x0 : Nat} {x1 : Nat} {x2 : Nat} {x3 : Nat} {x4 : Int32} {y0 : Nat} {y1 : Int32} {y2 : Int32} {y3 : Int32} {y4 : Int32} (hf : pL_law_1210 c9 w9 k23 σ x0 x1 x2 x3 x4 y0 y1 y2 y3 y4) : G MtL_law X σ 1210 [(0, rv x0), (1, rv x1), (2, rv x2), (3, rv x3), (4, .int x4)] [.int y4, .int y3, .int y2, .int y1, rv y0] := by
  unfold pL_law_1210 at hf
  obtain ⟨_, h3, hf⟩ := hf
  obtain ⟨σ1, v2, eσ1, hf⟩ := hf
  refine g_callV_i dL_law_1210 (wX11_uses _ eσ1) (okX11_uses _ (by decide) (by decide)) (ckK_el h3) hc15 t_967 t_968 t_969 rfl (Nat.le_trans (cat_le _) (Nat.le_of_ble_eq_true rfl)) rfl ?_
  refine g_aload_n (j := 2) dL_law_1213 rfl rfl ?_
  refine g_aload_n (j := 0) dL_law_1214 rfl rfl ?_
  refine g_iload (j := 4) dL_law_1215 rfl ?_
  refine g_iconst (v := 1) dL_law_1217 (by decide) ?_
  refine g_iadd dL_law_1218 ?_
  obtain ⟨v4, ev4, hf⟩ := hf
  refine g_iald dL_law_1219 ev4 ?_
  refine g_aload_n (j := 0) dL_law_1220 rfl rfl ?_
  refine g_iload (j := 4) dL_law_1221 rfl ?_
  refine g_iconst (v := 2) dL_law_1223 (by decide) ?_
  refine g_iadd dL_law_1224 ?_
  obtain ⟨v5, ev5, hf⟩ := hf
  refine g_iald dL_law_1225 ev5 ?_
  refine g_if_eq (tgt := 1233) dL_law_1226 (by decide) (fun c6 => ?_) (fun c6 => ?_)
  · rw [if_pos c6] at hf
    refine g_iconst (v := 0) dL_law_1233 (by decide) ?_
    exact bL_law_1234 hL hk23 hf
  · rw [if_neg c6] at hf
    refine g_iconst (v := 1) dL_law_1229 (by decide) ?_
    refine g_goto (tgt := 1234) dL_law_1230 (by decide) ?_
    exact bL_law_1234 hL hk23 hf

set_option maxRecDepth 100000 in
set_option maxHeartbeats 4000000 in
theorem bL_law_1190 {X : Xt} {b c9 w9 : Nat} {tab : List ExceptionTableEntry} (hL : LH X b tab c9 w9) {k23 : St → Nat → Nat → Nat → Nat → Int32 → Prop} (hk23 : ∀ (σ : St) (x0 : Nat) (x1 : Nat) (x2 : Nat) (x3 : Nat) (x4 : Int32), k23 σ x0 x1 x2 x3 x4 → G MtL_law X σ 23 [(0, rv x0), (1, rv x1), (2, rv x2), (3, rv x3), (4, .int x4)] []) {σ : St} {x0 : Nat} {x1 : Nat} {x2 : Nat} {x3 : Nat} {x4 : Int32} {y0 : Nat} {y1 : Int32} {y2 : Int32} (hf : pL_law_1190 c9 w9 k23 σ x0 x1 x2 x3 x4 y0 y1 y2) : G MtL_law X σ 1190 [(0, rv x0), (1, rv x1), (2, rv x2), (3, rv x3), (4, .int x4)] [.int y2, .int y1, rv y0] := by
  unfold pL_law_1190 at hf
  refine g_aload_n (j := 0) dL_law_1190 rfl rfl ?_
  refine g_iload (j := 4) dL_law_1191 rfl ?_
  refine g_iconst (v := 3) dL_law_1193 (by decide) ?_
  refine g_iadd dL_law_1194 ?_
  obtain ⟨v1, ev1, hf⟩ := hf
  refine g_iald dL_law_1195 ev1 ?_
  refine g_aload_n (j := 0) dL_law_1196 rfl rfl ?_
  refine g_iload (j := 4) dL_law_1197 rfl ?_
  refine g_iconst (v := 4) dL_law_1199 (by decide) ?_
  refine g_iadd dL_law_1200 ?_
  obtain ⟨v2, ev2, hf⟩ := hf
  refine g_iald dL_law_1201 ev2 ?_
  refine g_if_eq (tgt := 1209) dL_law_1202 (by decide) (fun c3 => ?_) (fun c3 => ?_)
  · rw [if_pos c3] at hf
    refine g_iconst (v := 0) dL_law_1209 (by decide) ?_
    exact bL_law_1210 hL hk23 hf
  · rw [if_neg c3] at hf
    refine g_iconst (v := 1) dL_law_1205 (by decide) ?_
    refine g_goto (tgt := 1210) dL_law_1206 (by decide) ?_
    exact bL_law_1210 hL hk23 hf

set_option maxRecDepth 100000 in
set_option maxHeartbeats 4000000 in
theorem bL_law_1169 {X : Xt} {b c9 w9 : Nat} {tab : List ExceptionTableEntry} (hL : LH X b tab c9 w9) {k23 : St → Nat → Nat → Nat → Nat → Int32 → Prop} (hk23 : ∀ (σ : St) (x0 : Nat) (x1 : Nat) (x2 : Nat) (x3 : Nat) (x4 : Int32), k23 σ x0 x1 x2 x3 x4 → G MtL_law X σ 23 [(0, rv x0), (1, rv x1), (2, rv x2), (3, rv x3), (4, .int x4)] []) {σ : St} {x0 : Nat} {x1 : Nat} {x2 : Nat} {x3 : Nat} {x4 : Int32} (hf : pL_law_1169 c9 w9 k23 σ x0 x1 x2 x3 x4) : G MtL_law X σ 1169 [(0, rv x0), (1, rv x1), (2, rv x2), (3, rv x3), (4, .int x4)] [] := by
  unfold pL_law_1169 at hf
  refine g_aload_n (j := 1) dL_law_1169 rfl rfl ?_
  refine g_aload_n (j := 0) dL_law_1170 rfl rfl ?_
  refine g_iload (j := 4) dL_law_1171 rfl ?_
  refine g_iconst (v := 1) dL_law_1173 (by decide) ?_
  refine g_iadd dL_law_1174 ?_
  obtain ⟨v1, ev1, hf⟩ := hf
  refine g_iald dL_law_1175 ev1 ?_
  refine g_aload_n (j := 0) dL_law_1176 rfl rfl ?_
  refine g_iload (j := 4) dL_law_1177 rfl ?_
  refine g_iconst (v := 2) dL_law_1179 (by decide) ?_
  refine g_iadd dL_law_1180 ?_
  obtain ⟨v2, ev2, hf⟩ := hf
  refine g_iald dL_law_1181 ev2 ?_
  refine g_if_eq (tgt := 1189) dL_law_1182 (by decide) (fun c3 => ?_) (fun c3 => ?_)
  · rw [if_pos c3] at hf
    refine g_iconst (v := 0) dL_law_1189 (by decide) ?_
    exact bL_law_1190 hL hk23 hf
  · rw [if_neg c3] at hf
    refine g_iconst (v := 1) dL_law_1185 (by decide) ?_
    refine g_goto (tgt := 1190) dL_law_1186 (by decide) ?_
    exact bL_law_1190 hL hk23 hf

set_option maxRecDepth 100000 in
set_option maxHeartbeats 4000000 in
theorem bL_law_1307 {X : Xt} {b c9 w9 : Nat} {tab : List ExceptionTableEntry} (hL : LH X b tab c9 w9) {k23 : St → Nat → Nat → Nat → Nat → Int32 → Prop} (hk23 : ∀ (σ : St) (x0 : Nat) (x1 : Nat) (x2 : Nat) (x3 : Nat) (x4 : Int32), k23 σ x0 x1 x2 x3 x4 → G MtL_law X σ 23 [(0, rv x0), (1, rv x1), (2, rv x2), (3, rv x3), (4, .int x4)] []) {σ : St} {x0 : Nat} {x1 : Nat} {x2 : Nat} {x3 : Nat} {x4 : Int32} {y0 : Int32} {y1 : Nat} {y2 : Int32} {y3 : Int32} (hf : pL_law_1307 c9 w9 k23 σ x0 x1 x2 x3 x4 y0 y1 y2 y3) : G MtL_law X σ 1307 [(0, rv x0), (1, rv x1), (2, rv x2), (3, rv x3), (4, .int x4)] [.int y3, .int y2, rv y1, .int y0] := by
  unfold pL_law_1307 at hf
  obtain ⟨_, h3, hf⟩ := hf
  obtain ⟨σ1, v2, eσ1, hf⟩ := hf
  refine g_callV_i dL_law_1307 (wX12_users_ _ eσ1) (okX12_users_ _ (by decide) (by decide)) (ckK_el h3) hc16 t_2647 t_2648 t_2649 rfl (Nat.le_trans (cat_le _) (Nat.le_of_ble_eq_true rfl)) rfl ?_
  refine g_icmp_eq (tgt := 2380) dL_law_1310 (by decide) (fun c4 => ?_) (fun c4 => ?_)
  · rw [if_pos c4] at hf
    exact bL_law_2380 hL hk23 hf
  · rw [if_neg c4] at hf
    refine g_iconst (v := 0) dL_law_1313 (by decide) ?_
    exact hf.elim

set_option maxRecDepth 100000 in
set_option maxHeartbeats 4000000 in
theorem bL_law_1283 {X : Xt} {b c9 w9 : Nat} {tab : List ExceptionTableEntry} (hL : LH X b tab c9 w9) {k23 : St → Nat → Nat → Nat → Nat → Int32 → Prop} (hk23 : ∀ (σ : St) (x0 : Nat) (x1 : Nat) (x2 : Nat) (x3 : Nat) (x4 : Int32), k23 σ x0 x1 x2 x3 x4 → G MtL_law X σ 23 [(0, rv x0), (1, rv x1), (2, rv x2), (3, rv x3), (4, .int x4)] []) {σ : St} {x0 : Nat} {x1 : Nat} {x2 : Nat} {x3 : Nat} {x4 : Int32} {y0 : Nat} {y1 : Int32} {y2 : Int32} (hf : pL_law_1283 c9 w9 k23 σ x0 x1 x2 x3 x4 y0 y1 y2) : G MtL_law X σ 1283 [(0, rv x0), (1, rv x1), (2, rv x2), (3, rv x3), (4, .int x4)] [.int y2, .int y1, rv y0] := by
  unfold pL_law_1283 at hf
  obtain ⟨_, h3, hf⟩ := hf
  obtain ⟨σ1, v2, eσ1, hf⟩ := hf
  refine g_callV_i dL_law_1283 (wX11_users _ eσ1) (okX11_users _ (by decide) (by decide)) (ckK_el h3) hc15 t_979 t_980 t_981 rfl (Nat.le_trans (cat_le _) (Nat.le_of_ble_eq_true rfl)) rfl ?_
  refine g_aload_n (j := 2) dL_law_1286 rfl rfl ?_
  refine g_aload_n (j := 0) dL_law_1287 rfl rfl ?_
  refine g_iload (j := 4) dL_law_1288 rfl ?_
  refine g_iconst (v := 1) dL_law_1290 (by decide) ?_
  refine g_iadd dL_law_1291 ?_
  obtain ⟨v4, ev4, hf⟩ := hf
  refine g_iald dL_law_1292 ev4 ?_
  refine g_aload_n (j := 0) dL_law_1293 rfl rfl ?_
  refine g_iload (j := 4) dL_law_1294 rfl ?_
  refine g_iconst (v := 2) dL_law_1296 (by decide) ?_
  refine g_iadd dL_law_1297 ?_
  obtain ⟨v5, ev5, hf⟩ := hf
  refine g_iald dL_law_1298 ev5 ?_
  refine g_if_eq (tgt := 1306) dL_law_1299 (by decide) (fun c6 => ?_) (fun c6 => ?_)
  · rw [if_pos c6] at hf
    refine g_iconst (v := 0) dL_law_1306 (by decide) ?_
    exact bL_law_1307 hL hk23 hf
  · rw [if_neg c6] at hf
    refine g_iconst (v := 1) dL_law_1302 (by decide) ?_
    refine g_goto (tgt := 1307) dL_law_1303 (by decide) ?_
    exact bL_law_1307 hL hk23 hf

set_option maxRecDepth 100000 in
set_option maxHeartbeats 4000000 in
theorem bL_law_1262 {X : Xt} {b c9 w9 : Nat} {tab : List ExceptionTableEntry} (hL : LH X b tab c9 w9) {k23 : St → Nat → Nat → Nat → Nat → Int32 → Prop} (hk23 : ∀ (σ : St) (x0 : Nat) (x1 : Nat) (x2 : Nat) (x3 : Nat) (x4 : Int32), k23 σ x0 x1 x2 x3 x4 → G MtL_law X σ 23 [(0, rv x0), (1, rv x1), (2, rv x2), (3, rv x3), (4, .int x4)] []) {σ : St} {x0 : Nat} {x1 : Nat} {x2 : Nat} {x3 : Nat} {x4 : Int32} (hf : pL_law_1262 c9 w9 k23 σ x0 x1 x2 x3 x4) : G MtL_law X σ 1262 [(0, rv x0), (1, rv x1), (2, rv x2), (3, rv x3), (4, .int x4)] [] := by
  unfold pL_law_1262 at hf
  refine g_aload_n (j := 1) dL_law_1262 rfl rfl ?_
  refine g_aload_n (j := 0) dL_law_1263 rfl rfl ?_
  refine g_iload (j := 4) dL_law_1264 rfl ?_
  refine g_iconst (v := 1) dL_law_1266 (by decide) ?_
  refine g_iadd dL_law_1267 ?_
  obtain ⟨v1, ev1, hf⟩ := hf
  refine g_iald dL_law_1268 ev1 ?_
  refine g_aload_n (j := 0) dL_law_1269 rfl rfl ?_
  refine g_iload (j := 4) dL_law_1270 rfl ?_
  refine g_iconst (v := 2) dL_law_1272 (by decide) ?_
  refine g_iadd dL_law_1273 ?_
  obtain ⟨v2, ev2, hf⟩ := hf
  refine g_iald dL_law_1274 ev2 ?_
  refine g_if_eq (tgt := 1282) dL_law_1275 (by decide) (fun c3 => ?_) (fun c3 => ?_)
  · rw [if_pos c3] at hf
    refine g_iconst (v := 0) dL_law_1282 (by decide) ?_
    exact bL_law_1283 hL hk23 hf
  · rw [if_neg c3] at hf
    refine g_iconst (v := 1) dL_law_1278 (by decide) ?_
    refine g_goto (tgt := 1283) dL_law_1279 (by decide) ?_
    exact bL_law_1283 hL hk23 hf

set_option maxRecDepth 100000 in
set_option maxHeartbeats 4000000 in
theorem bL_law_1396 {X : Xt} {b c9 w9 : Nat} {tab : List ExceptionTableEntry} (hL : LH X b tab c9 w9) {k23 : St → Nat → Nat → Nat → Nat → Int32 → Prop} (hk23 : ∀ (σ : St) (x0 : Nat) (x1 : Nat) (x2 : Nat) (x3 : Nat) (x4 : Int32), k23 σ x0 x1 x2 x3 x4 → G MtL_law X σ 23 [(0, rv x0), (1, rv x1), (2, rv x2), (3, rv x3), (4, .int x4)] []) {σ : St} {x0 : Nat} {x1 : Nat} {x2 : Nat} {x3 : Nat} {x4 : Int32} (hf : pL_law_1396 c9 w9 k23 σ x0 x1 x2 x3 x4) : G MtL_law X σ 1396 [(0, rv x0), (1, rv x1), (2, rv x2), (3, rv x3), (4, .int x4)] [] := by
  unfold pL_law_1396 at hf
  refine g_goto (tgt := 2380) dL_law_1396 (by decide) ?_
  exact bL_law_2380 hL hk23 hf

set_option maxRecDepth 100000 in
set_option maxHeartbeats 4000000 in
theorem bL_law_1363 {X : Xt} {b c9 w9 : Nat} {tab : List ExceptionTableEntry} (hL : LH X b tab c9 w9) {k23 : St → Nat → Nat → Nat → Nat → Int32 → Prop} (hk23 : ∀ (σ : St) (x0 : Nat) (x1 : Nat) (x2 : Nat) (x3 : Nat) (x4 : Int32), k23 σ x0 x1 x2 x3 x4 → G MtL_law X σ 23 [(0, rv x0), (1, rv x1), (2, rv x2), (3, rv x3), (4, .int x4)] []) {σ : St} {x0 : Nat} {x1 : Nat} {x2 : Nat} {x3 : Nat} {x4 : Int32} {x5 : Int32} {y0 : Nat} {y1 : Int32} {y2 : Int32} (hf : pL_law_1363 c9 w9 k23 σ x0 x1 x2 x3 x4 x5 y0 y1 y2) : G MtL_law X σ 1363 [(0, rv x0), (1, rv x1), (2, rv x2), (3, rv x3), (4, .int x4), (5, .int x5)] [.int y2, .int y1, rv y0] := by
  unfold pL_law_1363 at hf
  obtain ⟨_, h3, hf⟩ := hf
  obtain ⟨σ1, v2, eσ1, hf⟩ := hf
  refine g_callV_i dL_law_1363 (wX12_drop _ eσ1) (okX12_drop _ (by decide) (by decide)) (ckK_el h3) hc16 t_2651 t_2652 t_2653 rfl (Nat.le_trans (cat_le _) (Nat.le_of_ble_eq_true rfl)) rfl ?_
  refine g_istore (i := 6) (L' := [(6, .int v2), (0, rv x0), (1, rv x1), (2, rv x2), (3, rv x3), (4, .int x4), (5, .int x5)]) dL_law_1366 (Nat.le_of_ble_eq_true rfl) rfl ?_
  refine g_aload_n (j := 3) dL_law_1368 rfl rfl ?_
  obtain ⟨_, h6, hf⟩ := hf
  obtain ⟨σ4, v5, eσ4, hf⟩ := hf
  refine g_callV_i dL_law_1369 (wX12_thrown _ eσ4) (okX12_thrown _ (by decide) (by decide)) (ckK_el h6) hc16 t_1892 t_1893 t_1894 rfl (Nat.le_trans (cat_le _) (Nat.le_of_ble_eq_true rfl)) rfl ?_
  refine g_iload (j := 6) dL_law_1372 rfl ?_
  refine g_icmp_eq (tgt := 1379) dL_law_1374 (by decide) (fun c7 => ?_) (fun c7 => ?_)
  · rw [if_pos c7] at hf
    refine g_iload (j := 6) dL_law_1379 rfl ?_
    refine g_if_ne (tgt := 1396) dL_law_1381 (by decide) (fun c8 => ?_) (fun c8 => ?_)
    · rw [if_neg c8] at hf
      refine g_sub (L' := [(0, rv x0), (1, rv x1), (2, rv x2), (3, rv x3), (4, .int x4)]) [1, 2, 3, 4, 5] rfl ?_
      exact bL_law_1396 hL hk23 hf
    · rw [if_pos c8] at hf
      refine g_aload_n (j := 4) dL_law_1384 rfl rfl ?_
      refine g_iconst (v := 0) dL_law_1385 (by decide) ?_
      obtain ⟨v9, ev9, hf⟩ := hf
      refine g_jld dL_law_1386 ev9 ?_
      refine g_iload (j := 0) dL_law_1387 rfl ?_
      refine g_i2l dL_law_1389 rfl ?_
      refine g_lcmp dL_law_1390 ?_
      refine g_if_eq (tgt := 1396) dL_law_1391 (by decide) (fun c10 => ?_) (fun c10 => ?_)
      · rw [if_pos c10] at hf
        refine g_sub (L' := [(0, rv x0), (1, rv x1), (2, rv x2), (3, rv x3), (4, .int x4)]) [1, 2, 3, 4, 5] rfl ?_
        exact bL_law_1396 hL hk23 hf
      · rw [if_neg c10] at hf
        refine g_iconst (v := 0) dL_law_1394 (by decide) ?_
        exact hf.elim
  · rw [if_neg c7] at hf
    refine g_iconst (v := 0) dL_law_1377 (by decide) ?_
    exact hf.elim

set_option maxRecDepth 100000 in
set_option maxHeartbeats 4000000 in
theorem bL_law_1336 {X : Xt} {b c9 w9 : Nat} {tab : List ExceptionTableEntry} (hL : LH X b tab c9 w9) {k23 : St → Nat → Nat → Nat → Nat → Int32 → Prop} (hk23 : ∀ (σ : St) (x0 : Nat) (x1 : Nat) (x2 : Nat) (x3 : Nat) (x4 : Int32), k23 σ x0 x1 x2 x3 x4 → G MtL_law X σ 23 [(0, rv x0), (1, rv x1), (2, rv x2), (3, rv x3), (4, .int x4)] []) {σ : St} {x0 : Nat} {x1 : Nat} {x2 : Nat} {x3 : Nat} {x4 : Int32} {y0 : Nat} {y1 : Int32} {y2 : Int32} (hf : pL_law_1336 c9 w9 k23 σ x0 x1 x2 x3 x4 y0 y1 y2) : G MtL_law X σ 1336 [(0, rv x0), (1, rv x1), (2, rv x2), (3, rv x3), (4, .int x4)] [.int y2, .int y1, rv y0] := by
  unfold pL_law_1336 at hf
  refine g_aload_n (j := 3) dL_law_1336 rfl rfl ?_
  obtain ⟨σ1, v2, eσ1, hf⟩ := hf
  refine g_callW (n := 4) dL_law_1337 (wL_drop _ hL.1 eσ1) ⟨t_1729, by decide, by decide, ⟨by decide, by decide⟩, by decide +kernel, t_0⟩ t_1727 t_1728 rfl (Nat.le_trans (cat_le _) (Nat.le_of_ble_eq_true rfl)) rfl (fun z3 hz3 => ?_)
  replace hf := hf z3 hz3
  refine g_istore (i := 5) (L' := [(5, .int v2), (0, rv x0), (1, rv x1), (2, rv x2), (3, rv x3), (4, .int x4)]) dL_law_1340 (Nat.le_of_ble_eq_true rfl) rfl ?_
  refine g_aload_n (j := 3) dL_law_1342 rfl rfl ?_
  refine g_aload_n (j := 1) dL_law_1343 rfl rfl ?_
  refine g_iload (j := 5) dL_law_1344 rfl ?_
  refine g_iconst (v := 1) dL_law_1346 (by decide) ?_
  refine g_iadd dL_law_1347 ?_
  obtain ⟨v4, ev4, hf⟩ := hf
  refine g_iald dL_law_1348 ev4 ?_
  refine g_aload_n (j := 1) dL_law_1349 rfl rfl ?_
  refine g_iload (j := 5) dL_law_1350 rfl ?_
  refine g_iconst (v := 2) dL_law_1352 (by decide) ?_
  refine g_iadd dL_law_1353 ?_
  obtain ⟨v5, ev5, hf⟩ := hf
  refine g_iald dL_law_1354 ev5 ?_
  refine g_if_eq (tgt := 1362) dL_law_1355 (by decide) (fun c6 => ?_) (fun c6 => ?_)
  · rw [if_pos c6] at hf
    refine g_iconst (v := 0) dL_law_1362 (by decide) ?_
    refine g_sub (L' := [(0, rv x0), (1, rv x1), (2, rv x2), (3, rv x3), (4, .int x4), (5, .int v2)]) [1, 2, 3, 4, 5, 0] rfl ?_
    exact bL_law_1363 hL hk23 hf
  · rw [if_neg c6] at hf
    refine g_iconst (v := 1) dL_law_1358 (by decide) ?_
    refine g_goto (tgt := 1363) dL_law_1359 (by decide) ?_
    refine g_sub (L' := [(0, rv x0), (1, rv x1), (2, rv x2), (3, rv x3), (4, .int x4), (5, .int v2)]) [1, 2, 3, 4, 5, 0] rfl ?_
    exact bL_law_1363 hL hk23 hf

set_option maxRecDepth 100000 in
set_option maxHeartbeats 4000000 in
theorem bL_law_1315 {X : Xt} {b c9 w9 : Nat} {tab : List ExceptionTableEntry} (hL : LH X b tab c9 w9) {k23 : St → Nat → Nat → Nat → Nat → Int32 → Prop} (hk23 : ∀ (σ : St) (x0 : Nat) (x1 : Nat) (x2 : Nat) (x3 : Nat) (x4 : Int32), k23 σ x0 x1 x2 x3 x4 → G MtL_law X σ 23 [(0, rv x0), (1, rv x1), (2, rv x2), (3, rv x3), (4, .int x4)] []) {σ : St} {x0 : Nat} {x1 : Nat} {x2 : Nat} {x3 : Nat} {x4 : Int32} (hf : pL_law_1315 c9 w9 k23 σ x0 x1 x2 x3 x4) : G MtL_law X σ 1315 [(0, rv x0), (1, rv x1), (2, rv x2), (3, rv x3), (4, .int x4)] [] := by
  unfold pL_law_1315 at hf
  refine g_aload_n (j := 1) dL_law_1315 rfl rfl ?_
  refine g_aload_n (j := 0) dL_law_1316 rfl rfl ?_
  refine g_iload (j := 4) dL_law_1317 rfl ?_
  refine g_iconst (v := 1) dL_law_1319 (by decide) ?_
  refine g_iadd dL_law_1320 ?_
  obtain ⟨v1, ev1, hf⟩ := hf
  refine g_iald dL_law_1321 ev1 ?_
  refine g_aload_n (j := 0) dL_law_1322 rfl rfl ?_
  refine g_iload (j := 4) dL_law_1323 rfl ?_
  refine g_iconst (v := 2) dL_law_1325 (by decide) ?_
  refine g_iadd dL_law_1326 ?_
  obtain ⟨v2, ev2, hf⟩ := hf
  refine g_iald dL_law_1327 ev2 ?_
  refine g_if_eq (tgt := 1335) dL_law_1328 (by decide) (fun c3 => ?_) (fun c3 => ?_)
  · rw [if_pos c3] at hf
    refine g_iconst (v := 0) dL_law_1335 (by decide) ?_
    exact bL_law_1336 hL hk23 hf
  · rw [if_neg c3] at hf
    refine g_iconst (v := 1) dL_law_1331 (by decide) ?_
    refine g_goto (tgt := 1336) dL_law_1332 (by decide) ?_
    exact bL_law_1336 hL hk23 hf

set_option maxRecDepth 100000 in
set_option maxHeartbeats 4000000 in
theorem bL_law_1399 {X : Xt} {b c9 w9 : Nat} {tab : List ExceptionTableEntry} (hL : LH X b tab c9 w9) {k23 : St → Nat → Nat → Nat → Nat → Int32 → Prop} (hk23 : ∀ (σ : St) (x0 : Nat) (x1 : Nat) (x2 : Nat) (x3 : Nat) (x4 : Int32), k23 σ x0 x1 x2 x3 x4 → G MtL_law X σ 23 [(0, rv x0), (1, rv x1), (2, rv x2), (3, rv x3), (4, .int x4)] []) {σ : St} {x0 : Nat} {x1 : Nat} {x2 : Nat} {x3 : Nat} {x4 : Int32} (hf : pL_law_1399 c9 w9 k23 σ x0 x1 x2 x3 x4) : G MtL_law X σ 1399 [(0, rv x0), (1, rv x1), (2, rv x2), (3, rv x3), (4, .int x4)] [] := by
  unfold pL_law_1399 at hf
  refine g_aload_n (j := 1) dL_law_1399 rfl rfl ?_
  obtain ⟨_, h3, hf⟩ := hf
  obtain ⟨σ1, v2, eσ1, hf⟩ := hf
  refine g_callV_i dL_law_1400 (wX11_steps _ eσ1) (okX11_steps _ (by decide) (by decide)) (ckK_el h3) hc15 t_994 t_995 t_996 rfl (Nat.le_trans (cat_le _) (Nat.le_of_ble_eq_true rfl)) rfl ?_
  refine g_aload_n (j := 2) dL_law_1403 rfl rfl ?_
  obtain ⟨_, h6, hf⟩ := hf
  obtain ⟨σ4, v5, eσ4, hf⟩ := hf
  refine g_callV_i dL_law_1404 (wX12_steps _ eσ4) (okX12_steps _ (by decide) (by decide)) (ckK_el h6) hc16 t_2655 t_2656 t_2657 rfl (Nat.le_trans (cat_le _) (Nat.le_of_ble_eq_true rfl)) rfl ?_
  refine g_icmp_eq (tgt := 2380) dL_law_1407 (by decide) (fun c7 => ?_) (fun c7 => ?_)
  · rw [if_pos c7] at hf
    exact bL_law_2380 hL hk23 hf
  · rw [if_neg c7] at hf
    refine g_iconst (v := 0) dL_law_1410 (by decide) ?_
    exact hf.elim

set_option maxRecDepth 100000 in
set_option maxHeartbeats 4000000 in
theorem bL_law_1465 {X : Xt} {b c9 w9 : Nat} {tab : List ExceptionTableEntry} (hL : LH X b tab c9 w9) {k23 : St → Nat → Nat → Nat → Nat → Int32 → Prop} (hk23 : ∀ (σ : St) (x0 : Nat) (x1 : Nat) (x2 : Nat) (x3 : Nat) (x4 : Int32), k23 σ x0 x1 x2 x3 x4 → G MtL_law X σ 23 [(0, rv x0), (1, rv x1), (2, rv x2), (3, rv x3), (4, .int x4)] []) {σ : St} {x0 : Nat} {x1 : Nat} {x2 : Nat} {x3 : Nat} {x4 : Int32} (hf : pL_law_1465 c9 w9 k23 σ x0 x1 x2 x3 x4) : G MtL_law X σ 1465 [(0, rv x0), (1, rv x1), (2, rv x2), (3, rv x3), (4, .int x4)] [] := by
  unfold pL_law_1465 at hf
  refine g_goto (tgt := 2380) dL_law_1465 (by decide) ?_
  exact bL_law_2380 hL hk23 hf

set_option maxRecDepth 100000 in
set_option maxHeartbeats 4000000 in
theorem bL_law_1412 {X : Xt} {b c9 w9 : Nat} {tab : List ExceptionTableEntry} (hL : LH X b tab c9 w9) {k23 : St → Nat → Nat → Nat → Nat → Int32 → Prop} (hk23 : ∀ (σ : St) (x0 : Nat) (x1 : Nat) (x2 : Nat) (x3 : Nat) (x4 : Int32), k23 σ x0 x1 x2 x3 x4 → G MtL_law X σ 23 [(0, rv x0), (1, rv x1), (2, rv x2), (3, rv x3), (4, .int x4)] []) {σ : St} {x0 : Nat} {x1 : Nat} {x2 : Nat} {x3 : Nat} {x4 : Int32} (hf : pL_law_1412 c9 w9 k23 σ x0 x1 x2 x3 x4) : G MtL_law X σ 1412 [(0, rv x0), (1, rv x1), (2, rv x2), (3, rv x3), (4, .int x4)] [] := by
  unfold pL_law_1412 at hf
  refine g_aload_n (j := 1) dL_law_1412 rfl rfl ?_
  refine g_aload_n (j := 0) dL_law_1413 rfl rfl ?_
  refine g_iload (j := 4) dL_law_1414 rfl ?_
  refine g_iconst (v := 1) dL_law_1416 (by decide) ?_
  refine g_iadd dL_law_1417 ?_
  obtain ⟨v1, ev1, hf⟩ := hf
  refine g_iald dL_law_1418 ev1 ?_
  refine g_aload_n (j := 3) dL_law_1419 rfl rfl ?_
  obtain ⟨σ2, v3, eσ2, hf⟩ := hf
  refine g_callW (n := 3) dL_law_1420 (wL_stepAt _ hL.1 eσ2) ⟨t_1743, by decide, by decide, ⟨by decide, by decide⟩, by decide +kernel, t_0⟩ t_1741 t_1742 rfl (Nat.le_trans (cat_le _) (Nat.le_of_ble_eq_true rfl)) rfl (fun z4 hz4 => ?_)
  replace hf := hf z4 hz4
  refine g_istore (i := 5) (L' := [(5, .int v3), (0, rv x0), (1, rv x1), (2, rv x2), (3, rv x3), (4, .int x4)]) dL_law_1423 (Nat.le_of_ble_eq_true rfl) rfl ?_
  refine g_aload_n (j := 3) dL_law_1425 rfl rfl ?_
  refine g_aload_n (j := 1) dL_law_1426 rfl rfl ?_
  refine g_iload (j := 5) dL_law_1427 rfl ?_
  refine g_iconst (v := 1) dL_law_1429 (by decide) ?_
  refine g_iadd dL_law_1430 ?_
  obtain ⟨v5, ev5, hf⟩ := hf
  refine g_iald dL_law_1431 ev5 ?_
  obtain ⟨_, h8, hf⟩ := hf
  obtain ⟨σ6, v7, eσ6, hf⟩ := hf
  refine g_callV_i dL_law_1432 (wX12_stepAt _ eσ6) (okX12_stepAt _ (by decide) (by decide)) (ckK_el h8) hc16 t_2659 t_2660 t_2661 rfl (Nat.le_trans (cat_le _) (Nat.le_of_ble_eq_true rfl)) rfl ?_
  refine g_istore (i := 6) (L' := [(6, .int v7), (5, .int v3), (0, rv x0), (1, rv x1), (2, rv x2), (3, rv x3), (4, .int x4)]) dL_law_1435 (Nat.le_of_ble_eq_true rfl) rfl ?_
  refine g_aload_n (j := 4) dL_law_1437 rfl rfl ?_
  obtain ⟨_, h11, hf⟩ := hf
  obtain ⟨σ9, v10, eσ9, hf⟩ := hf
  refine g_callV_i dL_law_1438 (wX12_thrown _ eσ9) (okX12_thrown _ (by decide) (by decide)) (ckK_el h11) hc16 t_1892 t_1893 t_1894 rfl (Nat.le_trans (cat_le _) (Nat.le_of_ble_eq_true rfl)) rfl ?_
  refine g_iload (j := 1) dL_law_1441 rfl ?_
  refine g_icmp_eq (tgt := 1448) dL_law_1443 (by decide) (fun c12 => ?_) (fun c12 => ?_)
  · rw [if_pos c12] at hf
    refine g_iload (j := 1) dL_law_1448 rfl ?_
    refine g_if_ne (tgt := 1465) dL_law_1450 (by decide) (fun c13 => ?_) (fun c13 => ?_)
    · rw [if_neg c13] at hf
      refine g_sub (L' := [(0, rv x0), (1, rv x1), (2, rv x2), (3, rv x3), (4, .int x4)]) [2, 3, 4, 5, 6] rfl ?_
      exact bL_law_1465 hL hk23 hf
    · rw [if_pos c13] at hf
      refine g_aload_n (j := 5) dL_law_1453 rfl rfl ?_
      refine g_iconst (v := 0) dL_law_1454 (by decide) ?_
      obtain ⟨v14, ev14, hf⟩ := hf
      refine g_jld dL_law_1455 ev14 ?_
      refine g_iload (j := 0) dL_law_1456 rfl ?_
      refine g_i2l dL_law_1458 rfl ?_
      refine g_lcmp dL_law_1459 ?_
      refine g_if_eq (tgt := 1465) dL_law_1460 (by decide) (fun c15 => ?_) (fun c15 => ?_)
      · rw [if_pos c15] at hf
        refine g_sub (L' := [(0, rv x0), (1, rv x1), (2, rv x2), (3, rv x3), (4, .int x4)]) [2, 3, 4, 5, 6] rfl ?_
        exact bL_law_1465 hL hk23 hf
      · rw [if_neg c15] at hf
        refine g_iconst (v := 0) dL_law_1463 (by decide) ?_
        exact hf.elim
  · rw [if_neg c12] at hf
    refine g_iconst (v := 0) dL_law_1446 (by decide) ?_
    exact hf.elim

set_option maxRecDepth 100000 in
set_option maxHeartbeats 4000000 in
theorem bL_law_1521 {X : Xt} {b c9 w9 : Nat} {tab : List ExceptionTableEntry} (hL : LH X b tab c9 w9) {k23 : St → Nat → Nat → Nat → Nat → Int32 → Prop} (hk23 : ∀ (σ : St) (x0 : Nat) (x1 : Nat) (x2 : Nat) (x3 : Nat) (x4 : Int32), k23 σ x0 x1 x2 x3 x4 → G MtL_law X σ 23 [(0, rv x0), (1, rv x1), (2, rv x2), (3, rv x3), (4, .int x4)] []) {σ : St} {x0 : Nat} {x1 : Nat} {x2 : Nat} {x3 : Nat} {x4 : Int32} (hf : pL_law_1521 c9 w9 k23 σ x0 x1 x2 x3 x4) : G MtL_law X σ 1521 [(0, rv x0), (1, rv x1), (2, rv x2), (3, rv x3), (4, .int x4)] [] := by
  unfold pL_law_1521 at hf
  refine g_goto (tgt := 2380) dL_law_1521 (by decide) ?_
  exact bL_law_2380 hL hk23 hf

set_option maxRecDepth 100000 in
set_option maxHeartbeats 4000000 in
theorem bL_law_1468 {X : Xt} {b c9 w9 : Nat} {tab : List ExceptionTableEntry} (hL : LH X b tab c9 w9) {k23 : St → Nat → Nat → Nat → Nat → Int32 → Prop} (hk23 : ∀ (σ : St) (x0 : Nat) (x1 : Nat) (x2 : Nat) (x3 : Nat) (x4 : Int32), k23 σ x0 x1 x2 x3 x4 → G MtL_law X σ 23 [(0, rv x0), (1, rv x1), (2, rv x2), (3, rv x3), (4, .int x4)] []) {σ : St} {x0 : Nat} {x1 : Nat} {x2 : Nat} {x3 : Nat} {x4 : Int32} (hf : pL_law_1468 c9 w9 k23 σ x0 x1 x2 x3 x4) : G MtL_law X σ 1468 [(0, rv x0), (1, rv x1), (2, rv x2), (3, rv x3), (4, .int x4)] [] := by
  unfold pL_law_1468 at hf
  refine g_aload_n (j := 1) dL_law_1468 rfl rfl ?_
  refine g_aload_n (j := 0) dL_law_1469 rfl rfl ?_
  refine g_iload (j := 4) dL_law_1470 rfl ?_
  refine g_iconst (v := 1) dL_law_1472 (by decide) ?_
  refine g_iadd dL_law_1473 ?_
  obtain ⟨v1, ev1, hf⟩ := hf
  refine g_iald dL_law_1474 ev1 ?_
  refine g_aload_n (j := 3) dL_law_1475 rfl rfl ?_
  obtain ⟨σ2, v3, eσ2, hf⟩ := hf
  refine g_callW (n := 3) dL_law_1476 (wL_takeStep _ hL.1 eσ2) ⟨t_1750, by decide, by decide, ⟨by decide, by decide⟩, by decide +kernel, t_0⟩ t_1748 t_1749 rfl (Nat.le_trans (cat_le _) (Nat.le_of_ble_eq_true rfl)) rfl (fun z4 hz4 => ?_)
  replace hf := hf z4 hz4
  refine g_istore (i := 5) (L' := [(5, .int v3), (0, rv x0), (1, rv x1), (2, rv x2), (3, rv x3), (4, .int x4)]) dL_law_1479 (Nat.le_of_ble_eq_true rfl) rfl ?_
  refine g_aload_n (j := 3) dL_law_1481 rfl rfl ?_
  refine g_aload_n (j := 1) dL_law_1482 rfl rfl ?_
  refine g_iload (j := 5) dL_law_1483 rfl ?_
  refine g_iconst (v := 1) dL_law_1485 (by decide) ?_
  refine g_iadd dL_law_1486 ?_
  obtain ⟨v5, ev5, hf⟩ := hf
  refine g_iald dL_law_1487 ev5 ?_
  obtain ⟨_, h8, hf⟩ := hf
  obtain ⟨σ6, v7, eσ6, hf⟩ := hf
  refine g_callV_i dL_law_1488 (wX12_takeStep _ eσ6) (okX12_takeStep _ (by decide) (by decide)) (ckK_el h8) hc16 t_2667 t_2668 t_2669 rfl (Nat.le_trans (cat_le _) (Nat.le_of_ble_eq_true rfl)) rfl ?_
  refine g_istore (i := 6) (L' := [(6, .int v7), (5, .int v3), (0, rv x0), (1, rv x1), (2, rv x2), (3, rv x3), (4, .int x4)]) dL_law_1491 (Nat.le_of_ble_eq_true rfl) rfl ?_
  refine g_aload_n (j := 4) dL_law_1493 rfl rfl ?_
  obtain ⟨_, h11, hf⟩ := hf
  obtain ⟨σ9, v10, eσ9, hf⟩ := hf
  refine g_callV_i dL_law_1494 (wX12_thrown _ eσ9) (okX12_thrown _ (by decide) (by decide)) (ckK_el h11) hc16 t_1892 t_1893 t_1894 rfl (Nat.le_trans (cat_le _) (Nat.le_of_ble_eq_true rfl)) rfl ?_
  refine g_iload (j := 1) dL_law_1497 rfl ?_
  refine g_icmp_eq (tgt := 1504) dL_law_1499 (by decide) (fun c12 => ?_) (fun c12 => ?_)
  · rw [if_pos c12] at hf
    refine g_iload (j := 1) dL_law_1504 rfl ?_
    refine g_if_ne (tgt := 1521) dL_law_1506 (by decide) (fun c13 => ?_) (fun c13 => ?_)
    · rw [if_neg c13] at hf
      refine g_sub (L' := [(0, rv x0), (1, rv x1), (2, rv x2), (3, rv x3), (4, .int x4)]) [2, 3, 4, 5, 6] rfl ?_
      exact bL_law_1521 hL hk23 hf
    · rw [if_pos c13] at hf
      refine g_aload_n (j := 5) dL_law_1509 rfl rfl ?_
      refine g_iconst (v := 0) dL_law_1510 (by decide) ?_
      obtain ⟨v14, ev14, hf⟩ := hf
      refine g_jld dL_law_1511 ev14 ?_
      refine g_iload (j := 0) dL_law_1512 rfl ?_
      refine g_i2l dL_law_1514 rfl ?_
      refine g_lcmp dL_law_1515 ?_
      refine g_if_eq (tgt := 1521) dL_law_1516 (by decide) (fun c15 => ?_) (fun c15 => ?_)
      · rw [if_pos c15] at hf
        refine g_sub (L' := [(0, rv x0), (1, rv x1), (2, rv x2), (3, rv x3), (4, .int x4)]) [2, 3, 4, 5, 6] rfl ?_
        exact bL_law_1521 hL hk23 hf
      · rw [if_neg c15] at hf
        refine g_iconst (v := 0) dL_law_1519 (by decide) ?_
        exact hf.elim
  · rw [if_neg c12] at hf
    refine g_iconst (v := 0) dL_law_1502 (by decide) ?_
    exact hf.elim

set_option maxRecDepth 100000 in
set_option maxHeartbeats 4000000 in
theorem bL_law_1524 {X : Xt} {b c9 w9 : Nat} {tab : List ExceptionTableEntry} (hL : LH X b tab c9 w9) {k23 : St → Nat → Nat → Nat → Nat → Int32 → Prop} (hk23 : ∀ (σ : St) (x0 : Nat) (x1 : Nat) (x2 : Nat) (x3 : Nat) (x4 : Int32), k23 σ x0 x1 x2 x3 x4 → G MtL_law X σ 23 [(0, rv x0), (1, rv x1), (2, rv x2), (3, rv x3), (4, .int x4)] []) {σ : St} {x0 : Nat} {x1 : Nat} {x2 : Nat} {x3 : Nat} {x4 : Int32} (hf : pL_law_1524 c9 w9 k23 σ x0 x1 x2 x3 x4) : G MtL_law X σ 1524 [(0, rv x0), (1, rv x1), (2, rv x2), (3, rv x3), (4, .int x4)] [] := by
  unfold pL_law_1524 at hf
  refine g_aload_n (j := 1) dL_law_1524 rfl rfl ?_
  obtain ⟨_, h3, hf⟩ := hf
  obtain ⟨σ1, v2, eσ1, hf⟩ := hf
  refine g_callV_i dL_law_1525 (wX11_ends _ eσ1) (okX11_ends _ (by decide) (by decide)) (ckK_el h3) hc15 t_998 t_999 t_1000 rfl (Nat.le_trans (cat_le _) (Nat.le_of_ble_eq_true rfl)) rfl ?_
  refine g_aload_n (j := 2) dL_law_1528 rfl rfl ?_
  obtain ⟨_, h6, hf⟩ := hf
  obtain ⟨σ4, v5, eσ4, hf⟩ := hf
  refine g_callV_i dL_law_1529 (wX12_ends _ eσ4) (okX12_ends _ (by decide) (by decide)) (ckK_el h6) hc16 t_2671 t_2672 t_2673 rfl (Nat.le_trans (cat_le _) (Nat.le_of_ble_eq_true rfl)) rfl ?_
  refine g_icmp_eq (tgt := 2380) dL_law_1532 (by decide) (fun c7 => ?_) (fun c7 => ?_)
  · rw [if_pos c7] at hf
    exact bL_law_2380 hL hk23 hf
  · rw [if_neg c7] at hf
    refine g_iconst (v := 0) dL_law_1535 (by decide) ?_
    exact hf.elim

set_option maxRecDepth 100000 in
set_option maxHeartbeats 4000000 in
theorem bL_law_1537 {X : Xt} {b c9 w9 : Nat} {tab : List ExceptionTableEntry} (hL : LH X b tab c9 w9) {k23 : St → Nat → Nat → Nat → Nat → Int32 → Prop} (hk23 : ∀ (σ : St) (x0 : Nat) (x1 : Nat) (x2 : Nat) (x3 : Nat) (x4 : Int32), k23 σ x0 x1 x2 x3 x4 → G MtL_law X σ 23 [(0, rv x0), (1, rv x1), (2, rv x2), (3, rv x3), (4, .int x4)] []) {σ : St} {x0 : Nat} {x1 : Nat} {x2 : Nat} {x3 : Nat} {x4 : Int32} (hf : pL_law_1537 c9 w9 k23 σ x0 x1 x2 x3 x4) : G MtL_law X σ 1537 [(0, rv x0), (1, rv x1), (2, rv x2), (3, rv x3), (4, .int x4)] [] := by
  unfold pL_law_1537 at hf
  refine g_aload_n (j := 1) dL_law_1537 rfl rfl ?_
  obtain ⟨_, h3, hf⟩ := hf
  obtain ⟨σ1, v2, eσ1, hf⟩ := hf
  refine g_callV_i dL_law_1538 (wX11_ahead _ eσ1) (okX11_ahead _ (by decide) (by decide)) (ckK_el h3) hc15 t_1002 t_1003 t_1004 rfl (Nat.le_trans (cat_le _) (Nat.le_of_ble_eq_true rfl)) rfl ?_
  refine g_aload_n (j := 2) dL_law_1541 rfl rfl ?_
  obtain ⟨_, h6, hf⟩ := hf
  obtain ⟨σ4, v5, eσ4, hf⟩ := hf
  refine g_callV_i dL_law_1542 (wX12_ahead _ eσ4) (okX12_ahead _ (by decide) (by decide)) (ckK_el h6) hc16 t_2675 t_2676 t_2677 rfl (Nat.le_trans (cat_le _) (Nat.le_of_ble_eq_true rfl)) rfl ?_
  refine g_icmp_eq (tgt := 2380) dL_law_1545 (by decide) (fun c7 => ?_) (fun c7 => ?_)
  · rw [if_pos c7] at hf
    exact bL_law_2380 hL hk23 hf
  · rw [if_neg c7] at hf
    refine g_iconst (v := 0) dL_law_1548 (by decide) ?_
    exact hf.elim

set_option maxRecDepth 100000 in
set_option maxHeartbeats 4000000 in
theorem bL_law_1550 {X : Xt} {b c9 w9 : Nat} {tab : List ExceptionTableEntry} (hL : LH X b tab c9 w9) {k23 : St → Nat → Nat → Nat → Nat → Int32 → Prop} (hk23 : ∀ (σ : St) (x0 : Nat) (x1 : Nat) (x2 : Nat) (x3 : Nat) (x4 : Int32), k23 σ x0 x1 x2 x3 x4 → G MtL_law X σ 23 [(0, rv x0), (1, rv x1), (2, rv x2), (3, rv x3), (4, .int x4)] []) {σ : St} {x0 : Nat} {x1 : Nat} {x2 : Nat} {x3 : Nat} {x4 : Int32} (hf : pL_law_1550 c9 w9 k23 σ x0 x1 x2 x3 x4) : G MtL_law X σ 1550 [(0, rv x0), (1, rv x1), (2, rv x2), (3, rv x3), (4, .int x4)] [] := by
  unfold pL_law_1550 at hf
  refine g_aload_n (j := 1) dL_law_1550 rfl rfl ?_
  obtain ⟨_, h3, hf⟩ := hf
  obtain ⟨σ1, v2, eσ1, hf⟩ := hf
  refine g_callV_i dL_law_1551 (wX11_repeating _ eσ1) (okX11_repeating _ (by decide) (by decide)) (ckK_el h3) hc15 t_1006 t_1007 t_1008 rfl (Nat.le_trans (cat_le _) (Nat.le_of_ble_eq_true rfl)) rfl ?_
  refine g_aload_n (j := 2) dL_law_1554 rfl rfl ?_
  obtain ⟨_, h6, hf⟩ := hf
  obtain ⟨σ4, v5, eσ4, hf⟩ := hf
  refine g_callV_i dL_law_1555 (wX12_repeating _ eσ4) (okX12_repeating _ (by decide) (by decide)) (ckK_el h6) hc16 t_2679 t_2680 t_2681 rfl (Nat.le_trans (cat_le _) (Nat.le_of_ble_eq_true rfl)) rfl ?_
  refine g_icmp_eq (tgt := 2380) dL_law_1558 (by decide) (fun c7 => ?_) (fun c7 => ?_)
  · rw [if_pos c7] at hf
    exact bL_law_2380 hL hk23 hf
  · rw [if_neg c7] at hf
    refine g_iconst (v := 0) dL_law_1561 (by decide) ?_
    exact hf.elim

set_option maxRecDepth 100000 in
set_option maxHeartbeats 4000000 in
theorem bL_law_1616 {X : Xt} {b c9 w9 : Nat} {tab : List ExceptionTableEntry} (hL : LH X b tab c9 w9) {k23 : St → Nat → Nat → Nat → Nat → Int32 → Prop} (hk23 : ∀ (σ : St) (x0 : Nat) (x1 : Nat) (x2 : Nat) (x3 : Nat) (x4 : Int32), k23 σ x0 x1 x2 x3 x4 → G MtL_law X σ 23 [(0, rv x0), (1, rv x1), (2, rv x2), (3, rv x3), (4, .int x4)] []) {σ : St} {x0 : Nat} {x1 : Nat} {x2 : Nat} {x3 : Nat} {x4 : Int32} (hf : pL_law_1616 c9 w9 k23 σ x0 x1 x2 x3 x4) : G MtL_law X σ 1616 [(0, rv x0), (1, rv x1), (2, rv x2), (3, rv x3), (4, .int x4)] [] := by
  unfold pL_law_1616 at hf
  refine g_goto (tgt := 2380) dL_law_1616 (by decide) ?_
  exact bL_law_2380 hL hk23 hf

set_option maxRecDepth 100000 in
set_option maxHeartbeats 4000000 in
theorem bL_law_1563 {X : Xt} {b c9 w9 : Nat} {tab : List ExceptionTableEntry} (hL : LH X b tab c9 w9) {k23 : St → Nat → Nat → Nat → Nat → Int32 → Prop} (hk23 : ∀ (σ : St) (x0 : Nat) (x1 : Nat) (x2 : Nat) (x3 : Nat) (x4 : Int32), k23 σ x0 x1 x2 x3 x4 → G MtL_law X σ 23 [(0, rv x0), (1, rv x1), (2, rv x2), (3, rv x3), (4, .int x4)] []) {σ : St} {x0 : Nat} {x1 : Nat} {x2 : Nat} {x3 : Nat} {x4 : Int32} (hf : pL_law_1563 c9 w9 k23 σ x0 x1 x2 x3 x4) : G MtL_law X σ 1563 [(0, rv x0), (1, rv x1), (2, rv x2), (3, rv x3), (4, .int x4)] [] := by
  unfold pL_law_1563 at hf
  refine g_aload_n (j := 1) dL_law_1563 rfl rfl ?_
  refine g_aload_n (j := 0) dL_law_1564 rfl rfl ?_
  refine g_iload (j := 4) dL_law_1565 rfl ?_
  refine g_iconst (v := 1) dL_law_1567 (by decide) ?_
  refine g_iadd dL_law_1568 ?_
  obtain ⟨v1, ev1, hf⟩ := hf
  refine g_iald dL_law_1569 ev1 ?_
  refine g_aload_n (j := 3) dL_law_1570 rfl rfl ?_
  obtain ⟨σ2, v3, eσ2, hf⟩ := hf
  refine g_callW (n := 3) dL_law_1571 (wL_decimal _ hL.1 eσ2) ⟨t_1761, by decide, by decide, ⟨by decide, by decide⟩, by decide +kernel, t_0⟩ t_1759 t_1760 rfl (Nat.le_trans (cat_le _) (Nat.le_of_ble_eq_true rfl)) rfl (fun z4 hz4 => ?_)
  replace hf := hf z4 hz4
  refine g_istore (i := 5) (L' := [(5, .int v3), (0, rv x0), (1, rv x1), (2, rv x2), (3, rv x3), (4, .int x4)]) dL_law_1574 (Nat.le_of_ble_eq_true rfl) rfl ?_
  refine g_aload_n (j := 3) dL_law_1576 rfl rfl ?_
  refine g_aload_n (j := 1) dL_law_1577 rfl rfl ?_
  refine g_iload (j := 5) dL_law_1578 rfl ?_
  refine g_iconst (v := 1) dL_law_1580 (by decide) ?_
  refine g_iadd dL_law_1581 ?_
  obtain ⟨v5, ev5, hf⟩ := hf
  refine g_iald dL_law_1582 ev5 ?_
  obtain ⟨_, h8, hf⟩ := hf
  obtain ⟨σ6, v7, eσ6, hf⟩ := hf
  refine g_callV_i dL_law_1583 (wX12_decimal _ eσ6) (okX12_decimal _ (by decide) (by decide)) (ckK_el h8) hc16 t_2683 t_2684 t_2685 rfl (Nat.le_trans (cat_le _) (Nat.le_of_ble_eq_true rfl)) rfl ?_
  refine g_istore (i := 6) (L' := [(6, .int v7), (5, .int v3), (0, rv x0), (1, rv x1), (2, rv x2), (3, rv x3), (4, .int x4)]) dL_law_1586 (Nat.le_of_ble_eq_true rfl) rfl ?_
  refine g_aload_n (j := 4) dL_law_1588 rfl rfl ?_
  obtain ⟨_, h11, hf⟩ := hf
  obtain ⟨σ9, v10, eσ9, hf⟩ := hf
  refine g_callV_i dL_law_1589 (wX12_thrown _ eσ9) (okX12_thrown _ (by decide) (by decide)) (ckK_el h11) hc16 t_1892 t_1893 t_1894 rfl (Nat.le_trans (cat_le _) (Nat.le_of_ble_eq_true rfl)) rfl ?_
  refine g_iload (j := 1) dL_law_1592 rfl ?_
  refine g_icmp_eq (tgt := 1599) dL_law_1594 (by decide) (fun c12 => ?_) (fun c12 => ?_)
  · rw [if_pos c12] at hf
    refine g_iload (j := 1) dL_law_1599 rfl ?_
    refine g_if_ne (tgt := 1616) dL_law_1601 (by decide) (fun c13 => ?_) (fun c13 => ?_)
    · rw [if_neg c13] at hf
      refine g_sub (L' := [(0, rv x0), (1, rv x1), (2, rv x2), (3, rv x3), (4, .int x4)]) [2, 3, 4, 5, 6] rfl ?_
      exact bL_law_1616 hL hk23 hf
    · rw [if_pos c13] at hf
      refine g_aload_n (j := 5) dL_law_1604 rfl rfl ?_
      refine g_iconst (v := 0) dL_law_1605 (by decide) ?_
      obtain ⟨v14, ev14, hf⟩ := hf
      refine g_jld dL_law_1606 ev14 ?_
      refine g_iload (j := 0) dL_law_1607 rfl ?_
      refine g_i2l dL_law_1609 rfl ?_
      refine g_lcmp dL_law_1610 ?_
      refine g_if_eq (tgt := 1616) dL_law_1611 (by decide) (fun c15 => ?_) (fun c15 => ?_)
      · rw [if_pos c15] at hf
        refine g_sub (L' := [(0, rv x0), (1, rv x1), (2, rv x2), (3, rv x3), (4, .int x4)]) [2, 3, 4, 5, 6] rfl ?_
        exact bL_law_1616 hL hk23 hf
      · rw [if_neg c15] at hf
        refine g_iconst (v := 0) dL_law_1614 (by decide) ?_
        exact hf.elim
  · rw [if_neg c12] at hf
    refine g_iconst (v := 0) dL_law_1597 (by decide) ?_
    exact hf.elim

set_option maxRecDepth 100000 in
set_option maxHeartbeats 4000000 in
theorem bL_law_1619 {X : Xt} {b c9 w9 : Nat} {tab : List ExceptionTableEntry} (hL : LH X b tab c9 w9) {k23 : St → Nat → Nat → Nat → Nat → Int32 → Prop} (hk23 : ∀ (σ : St) (x0 : Nat) (x1 : Nat) (x2 : Nat) (x3 : Nat) (x4 : Int32), k23 σ x0 x1 x2 x3 x4 → G MtL_law X σ 23 [(0, rv x0), (1, rv x1), (2, rv x2), (3, rv x3), (4, .int x4)] []) {σ : St} {x0 : Nat} {x1 : Nat} {x2 : Nat} {x3 : Nat} {x4 : Int32} (hf : pL_law_1619 c9 w9 k23 σ x0 x1 x2 x3 x4) : G MtL_law X σ 1619 [(0, rv x0), (1, rv x1), (2, rv x2), (3, rv x3), (4, .int x4)] [] := by
  unfold pL_law_1619 at hf
  refine g_aload_n (j := 1) dL_law_1619 rfl rfl ?_
  obtain ⟨_, h3, hf⟩ := hf
  obtain ⟨σ1, v2, eσ1, hf⟩ := hf
  refine g_callV_i dL_law_1620 (wX11_continued _ eσ1) (okX11_continued _ (by decide) (by decide)) (ckK_el h3) hc15 t_1010 t_1011 t_1012 rfl (Nat.le_trans (cat_le _) (Nat.le_of_ble_eq_true rfl)) rfl ?_
  refine g_aload_n (j := 2) dL_law_1623 rfl rfl ?_
  obtain ⟨_, h6, hf⟩ := hf
  obtain ⟨σ4, v5, eσ4, hf⟩ := hf
  refine g_callV_i dL_law_1624 (wX12_continued _ eσ4) (okX12_continued _ (by decide) (by decide)) (ckK_el h6) hc16 t_2687 t_2688 t_2689 rfl (Nat.le_trans (cat_le _) (Nat.le_of_ble_eq_true rfl)) rfl ?_
  refine g_icmp_eq (tgt := 2380) dL_law_1627 (by decide) (fun c7 => ?_) (fun c7 => ?_)
  · rw [if_pos c7] at hf
    exact bL_law_2380 hL hk23 hf
  · rw [if_neg c7] at hf
    refine g_iconst (v := 0) dL_law_1630 (by decide) ?_
    exact hf.elim

set_option maxRecDepth 100000 in
set_option maxHeartbeats 4000000 in
theorem bL_law_1685 {X : Xt} {b c9 w9 : Nat} {tab : List ExceptionTableEntry} (hL : LH X b tab c9 w9) {k23 : St → Nat → Nat → Nat → Nat → Int32 → Prop} (hk23 : ∀ (σ : St) (x0 : Nat) (x1 : Nat) (x2 : Nat) (x3 : Nat) (x4 : Int32), k23 σ x0 x1 x2 x3 x4 → G MtL_law X σ 23 [(0, rv x0), (1, rv x1), (2, rv x2), (3, rv x3), (4, .int x4)] []) {σ : St} {x0 : Nat} {x1 : Nat} {x2 : Nat} {x3 : Nat} {x4 : Int32} (hf : pL_law_1685 c9 w9 k23 σ x0 x1 x2 x3 x4) : G MtL_law X σ 1685 [(0, rv x0), (1, rv x1), (2, rv x2), (3, rv x3), (4, .int x4)] [] := by
  unfold pL_law_1685 at hf
  refine g_goto (tgt := 2380) dL_law_1685 (by decide) ?_
  exact bL_law_2380 hL hk23 hf

set_option maxRecDepth 100000 in
set_option maxHeartbeats 4000000 in
theorem bL_law_1632 {X : Xt} {b c9 w9 : Nat} {tab : List ExceptionTableEntry} (hL : LH X b tab c9 w9) {k23 : St → Nat → Nat → Nat → Nat → Int32 → Prop} (hk23 : ∀ (σ : St) (x0 : Nat) (x1 : Nat) (x2 : Nat) (x3 : Nat) (x4 : Int32), k23 σ x0 x1 x2 x3 x4 → G MtL_law X σ 23 [(0, rv x0), (1, rv x1), (2, rv x2), (3, rv x3), (4, .int x4)] []) {σ : St} {x0 : Nat} {x1 : Nat} {x2 : Nat} {x3 : Nat} {x4 : Int32} (hf : pL_law_1632 c9 w9 k23 σ x0 x1 x2 x3 x4) : G MtL_law X σ 1632 [(0, rv x0), (1, rv x1), (2, rv x2), (3, rv x3), (4, .int x4)] [] := by
  unfold pL_law_1632 at hf
  refine g_aload_n (j := 1) dL_law_1632 rfl rfl ?_
  refine g_aload_n (j := 0) dL_law_1633 rfl rfl ?_
  refine g_iload (j := 4) dL_law_1634 rfl ?_
  refine g_iconst (v := 1) dL_law_1636 (by decide) ?_
  refine g_iadd dL_law_1637 ?_
  obtain ⟨v1, ev1, hf⟩ := hf
  refine g_iald dL_law_1638 ev1 ?_
  refine g_aload_n (j := 3) dL_law_1639 rfl rfl ?_
  obtain ⟨σ2, v3, eσ2, hf⟩ := hf
  refine g_callW (n := 3) dL_law_1640 (wL_takeContinued _ hL.1 eσ2) ⟨t_1769, by decide, by decide, ⟨by decide, by decide⟩, by decide +kernel, t_0⟩ t_1767 t_1768 rfl (Nat.le_trans (cat_le _) (Nat.le_of_ble_eq_true rfl)) rfl (fun z4 hz4 => ?_)
  replace hf := hf z4 hz4
  refine g_istore (i := 5) (L' := [(5, .int v3), (0, rv x0), (1, rv x1), (2, rv x2), (3, rv x3), (4, .int x4)]) dL_law_1643 (Nat.le_of_ble_eq_true rfl) rfl ?_
  refine g_aload_n (j := 3) dL_law_1645 rfl rfl ?_
  refine g_aload_n (j := 1) dL_law_1646 rfl rfl ?_
  refine g_iload (j := 5) dL_law_1647 rfl ?_
  refine g_iconst (v := 1) dL_law_1649 (by decide) ?_
  refine g_iadd dL_law_1650 ?_
  obtain ⟨v5, ev5, hf⟩ := hf
  refine g_iald dL_law_1651 ev5 ?_
  obtain ⟨_, h8, hf⟩ := hf
  obtain ⟨σ6, v7, eσ6, hf⟩ := hf
  refine g_callV_i dL_law_1652 (wX12_takeContinued _ eσ6) (okX12_takeContinued _ (by decide) (by decide)) (ckK_el h8) hc16 t_2695 t_2696 t_2697 rfl (Nat.le_trans (cat_le _) (Nat.le_of_ble_eq_true rfl)) rfl ?_
  refine g_istore (i := 6) (L' := [(6, .int v7), (5, .int v3), (0, rv x0), (1, rv x1), (2, rv x2), (3, rv x3), (4, .int x4)]) dL_law_1655 (Nat.le_of_ble_eq_true rfl) rfl ?_
  refine g_aload_n (j := 4) dL_law_1657 rfl rfl ?_
  obtain ⟨_, h11, hf⟩ := hf
  obtain ⟨σ9, v10, eσ9, hf⟩ := hf
  refine g_callV_i dL_law_1658 (wX12_thrown _ eσ9) (okX12_thrown _ (by decide) (by decide)) (ckK_el h11) hc16 t_1892 t_1893 t_1894 rfl (Nat.le_trans (cat_le _) (Nat.le_of_ble_eq_true rfl)) rfl ?_
  refine g_iload (j := 1) dL_law_1661 rfl ?_
  refine g_icmp_eq (tgt := 1668) dL_law_1663 (by decide) (fun c12 => ?_) (fun c12 => ?_)
  · rw [if_pos c12] at hf
    refine g_iload (j := 1) dL_law_1668 rfl ?_
    refine g_if_ne (tgt := 1685) dL_law_1670 (by decide) (fun c13 => ?_) (fun c13 => ?_)
    · rw [if_neg c13] at hf
      refine g_sub (L' := [(0, rv x0), (1, rv x1), (2, rv x2), (3, rv x3), (4, .int x4)]) [2, 3, 4, 5, 6] rfl ?_
      exact bL_law_1685 hL hk23 hf
    · rw [if_pos c13] at hf
      refine g_aload_n (j := 5) dL_law_1673 rfl rfl ?_
      refine g_iconst (v := 0) dL_law_1674 (by decide) ?_
      obtain ⟨v14, ev14, hf⟩ := hf
      refine g_jld dL_law_1675 ev14 ?_
      refine g_iload (j := 0) dL_law_1676 rfl ?_
      refine g_i2l dL_law_1678 rfl ?_
      refine g_lcmp dL_law_1679 ?_
      refine g_if_eq (tgt := 1685) dL_law_1680 (by decide) (fun c15 => ?_) (fun c15 => ?_)
      · rw [if_pos c15] at hf
        refine g_sub (L' := [(0, rv x0), (1, rv x1), (2, rv x2), (3, rv x3), (4, .int x4)]) [2, 3, 4, 5, 6] rfl ?_
        exact bL_law_1685 hL hk23 hf
      · rw [if_neg c15] at hf
        refine g_iconst (v := 0) dL_law_1683 (by decide) ?_
        exact hf.elim
  · rw [if_neg c12] at hf
    refine g_iconst (v := 0) dL_law_1666 (by decide) ?_
    exact hf.elim

set_option maxRecDepth 100000 in
set_option maxHeartbeats 4000000 in
theorem bL_law_1741 {X : Xt} {b c9 w9 : Nat} {tab : List ExceptionTableEntry} (hL : LH X b tab c9 w9) {k23 : St → Nat → Nat → Nat → Nat → Int32 → Prop} (hk23 : ∀ (σ : St) (x0 : Nat) (x1 : Nat) (x2 : Nat) (x3 : Nat) (x4 : Int32), k23 σ x0 x1 x2 x3 x4 → G MtL_law X σ 23 [(0, rv x0), (1, rv x1), (2, rv x2), (3, rv x3), (4, .int x4)] []) {σ : St} {x0 : Nat} {x1 : Nat} {x2 : Nat} {x3 : Nat} {x4 : Int32} (hf : pL_law_1741 c9 w9 k23 σ x0 x1 x2 x3 x4) : G MtL_law X σ 1741 [(0, rv x0), (1, rv x1), (2, rv x2), (3, rv x3), (4, .int x4)] [] := by
  unfold pL_law_1741 at hf
  refine g_goto (tgt := 2380) dL_law_1741 (by decide) ?_
  exact bL_law_2380 hL hk23 hf

set_option maxRecDepth 100000 in
set_option maxHeartbeats 4000000 in
theorem bL_law_1688 {X : Xt} {b c9 w9 : Nat} {tab : List ExceptionTableEntry} (hL : LH X b tab c9 w9) {k23 : St → Nat → Nat → Nat → Nat → Int32 → Prop} (hk23 : ∀ (σ : St) (x0 : Nat) (x1 : Nat) (x2 : Nat) (x3 : Nat) (x4 : Int32), k23 σ x0 x1 x2 x3 x4 → G MtL_law X σ 23 [(0, rv x0), (1, rv x1), (2, rv x2), (3, rv x3), (4, .int x4)] []) {σ : St} {x0 : Nat} {x1 : Nat} {x2 : Nat} {x3 : Nat} {x4 : Int32} (hf : pL_law_1688 c9 w9 k23 σ x0 x1 x2 x3 x4) : G MtL_law X σ 1688 [(0, rv x0), (1, rv x1), (2, rv x2), (3, rv x3), (4, .int x4)] [] := by
  unfold pL_law_1688 at hf
  refine g_aload_n (j := 1) dL_law_1688 rfl rfl ?_
  refine g_aload_n (j := 0) dL_law_1689 rfl rfl ?_
  refine g_iload (j := 4) dL_law_1690 rfl ?_
  refine g_iconst (v := 1) dL_law_1692 (by decide) ?_
  refine g_iadd dL_law_1693 ?_
  obtain ⟨v1, ev1, hf⟩ := hf
  refine g_iald dL_law_1694 ev1 ?_
  refine g_aload_n (j := 3) dL_law_1695 rfl rfl ?_
  obtain ⟨σ2, v3, eσ2, hf⟩ := hf
  refine g_callW (n := 3) dL_law_1696 (wL_takeBest _ hL.1 eσ2) ⟨t_1776, by decide, by decide, ⟨by decide, by decide⟩, by decide +kernel, t_0⟩ t_1774 t_1775 rfl (Nat.le_trans (cat_le _) (Nat.le_of_ble_eq_true rfl)) rfl (fun z4 hz4 => ?_)
  replace hf := hf z4 hz4
  refine g_istore (i := 5) (L' := [(5, .int v3), (0, rv x0), (1, rv x1), (2, rv x2), (3, rv x3), (4, .int x4)]) dL_law_1699 (Nat.le_of_ble_eq_true rfl) rfl ?_
  refine g_aload_n (j := 3) dL_law_1701 rfl rfl ?_
  refine g_aload_n (j := 1) dL_law_1702 rfl rfl ?_
  refine g_iload (j := 5) dL_law_1703 rfl ?_
  refine g_iconst (v := 1) dL_law_1705 (by decide) ?_
  refine g_iadd dL_law_1706 ?_
  obtain ⟨v5, ev5, hf⟩ := hf
  refine g_iald dL_law_1707 ev5 ?_
  obtain ⟨_, h8, hf⟩ := hf
  obtain ⟨σ6, v7, eσ6, hf⟩ := hf
  refine g_callV_i dL_law_1708 (wX12_takeBest _ eσ6) (okX12_takeBest _ (by decide) (by decide)) (ckK_el h8) hc16 t_2699 t_2700 t_2701 rfl (Nat.le_trans (cat_le _) (Nat.le_of_ble_eq_true rfl)) rfl ?_
  refine g_istore (i := 6) (L' := [(6, .int v7), (5, .int v3), (0, rv x0), (1, rv x1), (2, rv x2), (3, rv x3), (4, .int x4)]) dL_law_1711 (Nat.le_of_ble_eq_true rfl) rfl ?_
  refine g_aload_n (j := 4) dL_law_1713 rfl rfl ?_
  obtain ⟨_, h11, hf⟩ := hf
  obtain ⟨σ9, v10, eσ9, hf⟩ := hf
  refine g_callV_i dL_law_1714 (wX12_thrown _ eσ9) (okX12_thrown _ (by decide) (by decide)) (ckK_el h11) hc16 t_1892 t_1893 t_1894 rfl (Nat.le_trans (cat_le _) (Nat.le_of_ble_eq_true rfl)) rfl ?_
  refine g_iload (j := 1) dL_law_1717 rfl ?_
  refine g_icmp_eq (tgt := 1724) dL_law_1719 (by decide) (fun c12 => ?_) (fun c12 => ?_)
  · rw [if_pos c12] at hf
    refine g_iload (j := 1) dL_law_1724 rfl ?_
    refine g_if_ne (tgt := 1741) dL_law_1726 (by decide) (fun c13 => ?_) (fun c13 => ?_)
    · rw [if_neg c13] at hf
      refine g_sub (L' := [(0, rv x0), (1, rv x1), (2, rv x2), (3, rv x3), (4, .int x4)]) [2, 3, 4, 5, 6] rfl ?_
      exact bL_law_1741 hL hk23 hf
    · rw [if_pos c13] at hf
      refine g_aload_n (j := 5) dL_law_1729 rfl rfl ?_
      refine g_iconst (v := 0) dL_law_1730 (by decide) ?_
      obtain ⟨v14, ev14, hf⟩ := hf
      refine g_jld dL_law_1731 ev14 ?_
      refine g_iload (j := 0) dL_law_1732 rfl ?_
      refine g_i2l dL_law_1734 rfl ?_
      refine g_lcmp dL_law_1735 ?_
      refine g_if_eq (tgt := 1741) dL_law_1736 (by decide) (fun c15 => ?_) (fun c15 => ?_)
      · rw [if_pos c15] at hf
        refine g_sub (L' := [(0, rv x0), (1, rv x1), (2, rv x2), (3, rv x3), (4, .int x4)]) [2, 3, 4, 5, 6] rfl ?_
        exact bL_law_1741 hL hk23 hf
      · rw [if_neg c15] at hf
        refine g_iconst (v := 0) dL_law_1739 (by decide) ?_
        exact hf.elim
  · rw [if_neg c12] at hf
    refine g_iconst (v := 0) dL_law_1722 (by decide) ?_
    exact hf.elim

set_option maxRecDepth 100000 in
set_option maxHeartbeats 4000000 in
theorem bL_law_1744 {X : Xt} {b c9 w9 : Nat} {tab : List ExceptionTableEntry} (hL : LH X b tab c9 w9) {k23 : St → Nat → Nat → Nat → Nat → Int32 → Prop} (hk23 : ∀ (σ : St) (x0 : Nat) (x1 : Nat) (x2 : Nat) (x3 : Nat) (x4 : Int32), k23 σ x0 x1 x2 x3 x4 → G MtL_law X σ 23 [(0, rv x0), (1, rv x1), (2, rv x2), (3, rv x3), (4, .int x4)] []) {σ : St} {x0 : Nat} {x1 : Nat} {x2 : Nat} {x3 : Nat} {x4 : Int32} (hf : pL_law_1744 c9 w9 k23 σ x0 x1 x2 x3 x4) : G MtL_law X σ 1744 [(0, rv x0), (1, rv x1), (2, rv x2), (3, rv x3), (4, .int x4)] [] := by
  unfold pL_law_1744 at hf
  refine g_aload_n (j := 1) dL_law_1744 rfl rfl ?_
  obtain ⟨_, h3, hf⟩ := hf
  obtain ⟨σ1, v2, eσ1, hf⟩ := hf
  refine g_callV_i dL_law_1745 (wX11_units _ eσ1) (okX11_units _ (by decide) (by decide)) (ckK_el h3) hc15 t_1036 t_1037 t_1038 rfl (Nat.le_trans (cat_le _) (Nat.le_of_ble_eq_true rfl)) rfl ?_
  refine g_aload_n (j := 2) dL_law_1748 rfl rfl ?_
  obtain ⟨_, h6, hf⟩ := hf
  obtain ⟨σ4, v5, eσ4, hf⟩ := hf
  refine g_callV_i dL_law_1749 (wX12_units _ eσ4) (okX12_units _ (by decide) (by decide)) (ckK_el h6) hc16 t_2707 t_2708 t_2709 rfl (Nat.le_trans (cat_le _) (Nat.le_of_ble_eq_true rfl)) rfl ?_
  refine g_icmp_eq (tgt := 2380) dL_law_1752 (by decide) (fun c7 => ?_) (fun c7 => ?_)
  · rw [if_pos c7] at hf
    exact bL_law_2380 hL hk23 hf
  · rw [if_neg c7] at hf
    refine g_iconst (v := 0) dL_law_1755 (by decide) ?_
    exact hf.elim

set_option maxRecDepth 100000 in
set_option maxHeartbeats 4000000 in
theorem bL_law_1810 {X : Xt} {b c9 w9 : Nat} {tab : List ExceptionTableEntry} (hL : LH X b tab c9 w9) {k23 : St → Nat → Nat → Nat → Nat → Int32 → Prop} (hk23 : ∀ (σ : St) (x0 : Nat) (x1 : Nat) (x2 : Nat) (x3 : Nat) (x4 : Int32), k23 σ x0 x1 x2 x3 x4 → G MtL_law X σ 23 [(0, rv x0), (1, rv x1), (2, rv x2), (3, rv x3), (4, .int x4)] []) {σ : St} {x0 : Nat} {x1 : Nat} {x2 : Nat} {x3 : Nat} {x4 : Int32} (hf : pL_law_1810 c9 w9 k23 σ x0 x1 x2 x3 x4) : G MtL_law X σ 1810 [(0, rv x0), (1, rv x1), (2, rv x2), (3, rv x3), (4, .int x4)] [] := by
  unfold pL_law_1810 at hf
  refine g_goto (tgt := 2380) dL_law_1810 (by decide) ?_
  exact bL_law_2380 hL hk23 hf

set_option maxRecDepth 100000 in
set_option maxHeartbeats 4000000 in
theorem bL_law_1757 {X : Xt} {b c9 w9 : Nat} {tab : List ExceptionTableEntry} (hL : LH X b tab c9 w9) {k23 : St → Nat → Nat → Nat → Nat → Int32 → Prop} (hk23 : ∀ (σ : St) (x0 : Nat) (x1 : Nat) (x2 : Nat) (x3 : Nat) (x4 : Int32), k23 σ x0 x1 x2 x3 x4 → G MtL_law X σ 23 [(0, rv x0), (1, rv x1), (2, rv x2), (3, rv x3), (4, .int x4)] []) {σ : St} {x0 : Nat} {x1 : Nat} {x2 : Nat} {x3 : Nat} {x4 : Int32} (hf : pL_law_1757 c9 w9 k23 σ x0 x1 x2 x3 x4) : G MtL_law X σ 1757 [(0, rv x0), (1, rv x1), (2, rv x2), (3, rv x3), (4, .int x4)] [] := by
  unfold pL_law_1757 at hf
  refine g_aload_n (j := 1) dL_law_1757 rfl rfl ?_
  refine g_aload_n (j := 0) dL_law_1758 rfl rfl ?_
  refine g_iload (j := 4) dL_law_1759 rfl ?_
  refine g_iconst (v := 1) dL_law_1761 (by decide) ?_
  refine g_iadd dL_law_1762 ?_
  obtain ⟨v1, ev1, hf⟩ := hf
  refine g_iald dL_law_1763 ev1 ?_
  refine g_aload_n (j := 3) dL_law_1764 rfl rfl ?_
  obtain ⟨σ2, v3, eσ2, hf⟩ := hf
  refine g_callW (n := 3) dL_law_1765 (wL_takeUnit _ hL.1 eσ2) ⟨t_1791, by decide, by decide, ⟨by decide, by decide⟩, by decide +kernel, t_0⟩ t_1789 t_1790 rfl (Nat.le_trans (cat_le _) (Nat.le_of_ble_eq_true rfl)) rfl (fun z4 hz4 => ?_)
  replace hf := hf z4 hz4
  refine g_istore (i := 5) (L' := [(5, .int v3), (0, rv x0), (1, rv x1), (2, rv x2), (3, rv x3), (4, .int x4)]) dL_law_1768 (Nat.le_of_ble_eq_true rfl) rfl ?_
  refine g_aload_n (j := 3) dL_law_1770 rfl rfl ?_
  refine g_aload_n (j := 1) dL_law_1771 rfl rfl ?_
  refine g_iload (j := 5) dL_law_1772 rfl ?_
  refine g_iconst (v := 1) dL_law_1774 (by decide) ?_
  refine g_iadd dL_law_1775 ?_
  obtain ⟨v5, ev5, hf⟩ := hf
  refine g_iald dL_law_1776 ev5 ?_
  obtain ⟨_, h8, hf⟩ := hf
  obtain ⟨σ6, v7, eσ6, hf⟩ := hf
  refine g_callV_i dL_law_1777 (wX12_takeUnit _ eσ6) (okX12_takeUnit _ (by decide) (by decide)) (ckK_el h8) hc16 t_2715 t_2716 t_2717 rfl (Nat.le_trans (cat_le _) (Nat.le_of_ble_eq_true rfl)) rfl ?_
  refine g_istore (i := 6) (L' := [(6, .int v7), (5, .int v3), (0, rv x0), (1, rv x1), (2, rv x2), (3, rv x3), (4, .int x4)]) dL_law_1780 (Nat.le_of_ble_eq_true rfl) rfl ?_
  refine g_aload_n (j := 4) dL_law_1782 rfl rfl ?_
  obtain ⟨_, h11, hf⟩ := hf
  obtain ⟨σ9, v10, eσ9, hf⟩ := hf
  refine g_callV_i dL_law_1783 (wX12_thrown _ eσ9) (okX12_thrown _ (by decide) (by decide)) (ckK_el h11) hc16 t_1892 t_1893 t_1894 rfl (Nat.le_trans (cat_le _) (Nat.le_of_ble_eq_true rfl)) rfl ?_
  refine g_iload (j := 1) dL_law_1786 rfl ?_
  refine g_icmp_eq (tgt := 1793) dL_law_1788 (by decide) (fun c12 => ?_) (fun c12 => ?_)
  · rw [if_pos c12] at hf
    refine g_iload (j := 1) dL_law_1793 rfl ?_
    refine g_if_ne (tgt := 1810) dL_law_1795 (by decide) (fun c13 => ?_) (fun c13 => ?_)
    · rw [if_neg c13] at hf
      refine g_sub (L' := [(0, rv x0), (1, rv x1), (2, rv x2), (3, rv x3), (4, .int x4)]) [2, 3, 4, 5, 6] rfl ?_
      exact bL_law_1810 hL hk23 hf
    · rw [if_pos c13] at hf
      refine g_aload_n (j := 5) dL_law_1798 rfl rfl ?_
      refine g_iconst (v := 0) dL_law_1799 (by decide) ?_
      obtain ⟨v14, ev14, hf⟩ := hf
      refine g_jld dL_law_1800 ev14 ?_
      refine g_iload (j := 0) dL_law_1801 rfl ?_
      refine g_i2l dL_law_1803 rfl ?_
      refine g_lcmp dL_law_1804 ?_
      refine g_if_eq (tgt := 1810) dL_law_1805 (by decide) (fun c15 => ?_) (fun c15 => ?_)
      · rw [if_pos c15] at hf
        refine g_sub (L' := [(0, rv x0), (1, rv x1), (2, rv x2), (3, rv x3), (4, .int x4)]) [2, 3, 4, 5, 6] rfl ?_
        exact bL_law_1810 hL hk23 hf
      · rw [if_neg c15] at hf
        refine g_iconst (v := 0) dL_law_1808 (by decide) ?_
        exact hf.elim
  · rw [if_neg c12] at hf
    refine g_iconst (v := 0) dL_law_1791 (by decide) ?_
    exact hf.elim

set_option maxRecDepth 100000 in
set_option maxHeartbeats 4000000 in
theorem bL_law_1866 {X : Xt} {b c9 w9 : Nat} {tab : List ExceptionTableEntry} (hL : LH X b tab c9 w9) {k23 : St → Nat → Nat → Nat → Nat → Int32 → Prop} (hk23 : ∀ (σ : St) (x0 : Nat) (x1 : Nat) (x2 : Nat) (x3 : Nat) (x4 : Int32), k23 σ x0 x1 x2 x3 x4 → G MtL_law X σ 23 [(0, rv x0), (1, rv x1), (2, rv x2), (3, rv x3), (4, .int x4)] []) {σ : St} {x0 : Nat} {x1 : Nat} {x2 : Nat} {x3 : Nat} {x4 : Int32} (hf : pL_law_1866 c9 w9 k23 σ x0 x1 x2 x3 x4) : G MtL_law X σ 1866 [(0, rv x0), (1, rv x1), (2, rv x2), (3, rv x3), (4, .int x4)] [] := by
  unfold pL_law_1866 at hf
  refine g_goto (tgt := 2380) dL_law_1866 (by decide) ?_
  exact bL_law_2380 hL hk23 hf

set_option maxRecDepth 100000 in
set_option maxHeartbeats 4000000 in
theorem bL_law_1813 {X : Xt} {b c9 w9 : Nat} {tab : List ExceptionTableEntry} (hL : LH X b tab c9 w9) {k23 : St → Nat → Nat → Nat → Nat → Int32 → Prop} (hk23 : ∀ (σ : St) (x0 : Nat) (x1 : Nat) (x2 : Nat) (x3 : Nat) (x4 : Int32), k23 σ x0 x1 x2 x3 x4 → G MtL_law X σ 23 [(0, rv x0), (1, rv x1), (2, rv x2), (3, rv x3), (4, .int x4)] []) {σ : St} {x0 : Nat} {x1 : Nat} {x2 : Nat} {x3 : Nat} {x4 : Int32} (hf : pL_law_1813 c9 w9 k23 σ x0 x1 x2 x3 x4) : G MtL_law X σ 1813 [(0, rv x0), (1, rv x1), (2, rv x2), (3, rv x3), (4, .int x4)] [] := by
  unfold pL_law_1813 at hf
  refine g_aload_n (j := 1) dL_law_1813 rfl rfl ?_
  refine g_aload_n (j := 0) dL_law_1814 rfl rfl ?_
  refine g_iload (j := 4) dL_law_1815 rfl ?_
  refine g_iconst (v := 1) dL_law_1817 (by decide) ?_
  refine g_iadd dL_law_1818 ?_
  obtain ⟨v1, ev1, hf⟩ := hf
  refine g_iald dL_law_1819 ev1 ?_
  refine g_aload_n (j := 3) dL_law_1820 rfl rfl ?_
  obtain ⟨σ2, v3, eσ2, hf⟩ := hf
  refine g_callW (n := 3) dL_law_1821 (wL_put _ hL.1 eσ2) ⟨t_1798, by decide, by decide, ⟨by decide, by decide⟩, by decide +kernel, t_0⟩ t_1796 t_1797 rfl (Nat.le_trans (cat_le _) (Nat.le_of_ble_eq_true rfl)) rfl (fun z4 hz4 => ?_)
  replace hf := hf z4 hz4
  refine g_istore (i := 5) (L' := [(5, .int v3), (0, rv x0), (1, rv x1), (2, rv x2), (3, rv x3), (4, .int x4)]) dL_law_1824 (Nat.le_of_ble_eq_true rfl) rfl ?_
  refine g_aload_n (j := 3) dL_law_1826 rfl rfl ?_
  refine g_aload_n (j := 1) dL_law_1827 rfl rfl ?_
  refine g_iload (j := 5) dL_law_1828 rfl ?_
  refine g_iconst (v := 1) dL_law_1830 (by decide) ?_
  refine g_iadd dL_law_1831 ?_
  obtain ⟨v5, ev5, hf⟩ := hf
  refine g_iald dL_law_1832 ev5 ?_
  obtain ⟨_, h8, hf⟩ := hf
  obtain ⟨σ6, v7, eσ6, hf⟩ := hf
  refine g_callV_i dL_law_1833 (wX12_put _ eσ6) (okX12_put _ (by decide) (by decide)) (ckK_el h8) hc16 t_2719 t_2720 t_2721 rfl (Nat.le_trans (cat_le _) (Nat.le_of_ble_eq_true rfl)) rfl ?_
  refine g_istore (i := 6) (L' := [(6, .int v7), (5, .int v3), (0, rv x0), (1, rv x1), (2, rv x2), (3, rv x3), (4, .int x4)]) dL_law_1836 (Nat.le_of_ble_eq_true rfl) rfl ?_
  refine g_aload_n (j := 4) dL_law_1838 rfl rfl ?_
  obtain ⟨_, h11, hf⟩ := hf
  obtain ⟨σ9, v10, eσ9, hf⟩ := hf
  refine g_callV_i dL_law_1839 (wX12_thrown _ eσ9) (okX12_thrown _ (by decide) (by decide)) (ckK_el h11) hc16 t_1892 t_1893 t_1894 rfl (Nat.le_trans (cat_le _) (Nat.le_of_ble_eq_true rfl)) rfl ?_
  refine g_iload (j := 1) dL_law_1842 rfl ?_
  refine g_icmp_eq (tgt := 1849) dL_law_1844 (by decide) (fun c12 => ?_) (fun c12 => ?_)
  · rw [if_pos c12] at hf
    refine g_iload (j := 1) dL_law_1849 rfl ?_
    refine g_if_ne (tgt := 1866) dL_law_1851 (by decide) (fun c13 => ?_) (fun c13 => ?_)
    · rw [if_neg c13] at hf
      refine g_sub (L' := [(0, rv x0), (1, rv x1), (2, rv x2), (3, rv x3), (4, .int x4)]) [2, 3, 4, 5, 6] rfl ?_
      exact bL_law_1866 hL hk23 hf
    · rw [if_pos c13] at hf
      refine g_aload_n (j := 5) dL_law_1854 rfl rfl ?_
      refine g_iconst (v := 0) dL_law_1855 (by decide) ?_
      obtain ⟨v14, ev14, hf⟩ := hf
      refine g_jld dL_law_1856 ev14 ?_
      refine g_iload (j := 0) dL_law_1857 rfl ?_
      refine g_i2l dL_law_1859 rfl ?_
      refine g_lcmp dL_law_1860 ?_
      refine g_if_eq (tgt := 1866) dL_law_1861 (by decide) (fun c15 => ?_) (fun c15 => ?_)
      · rw [if_pos c15] at hf
        refine g_sub (L' := [(0, rv x0), (1, rv x1), (2, rv x2), (3, rv x3), (4, .int x4)]) [2, 3, 4, 5, 6] rfl ?_
        exact bL_law_1866 hL hk23 hf
      · rw [if_neg c15] at hf
        refine g_iconst (v := 0) dL_law_1864 (by decide) ?_
        exact hf.elim
  · rw [if_neg c12] at hf
    refine g_iconst (v := 0) dL_law_1847 (by decide) ?_
    exact hf.elim

set_option maxRecDepth 100000 in
set_option maxHeartbeats 4000000 in
theorem bL_law_1922 {X : Xt} {b c9 w9 : Nat} {tab : List ExceptionTableEntry} (hL : LH X b tab c9 w9) {k23 : St → Nat → Nat → Nat → Nat → Int32 → Prop} (hk23 : ∀ (σ : St) (x0 : Nat) (x1 : Nat) (x2 : Nat) (x3 : Nat) (x4 : Int32), k23 σ x0 x1 x2 x3 x4 → G MtL_law X σ 23 [(0, rv x0), (1, rv x1), (2, rv x2), (3, rv x3), (4, .int x4)] []) {σ : St} {x0 : Nat} {x1 : Nat} {x2 : Nat} {x3 : Nat} {x4 : Int32} (hf : pL_law_1922 c9 w9 k23 σ x0 x1 x2 x3 x4) : G MtL_law X σ 1922 [(0, rv x0), (1, rv x1), (2, rv x2), (3, rv x3), (4, .int x4)] [] := by
  unfold pL_law_1922 at hf
  refine g_goto (tgt := 2380) dL_law_1922 (by decide) ?_
  exact bL_law_2380 hL hk23 hf

set_option maxRecDepth 100000 in
set_option maxHeartbeats 4000000 in
theorem bL_law_1869 {X : Xt} {b c9 w9 : Nat} {tab : List ExceptionTableEntry} (hL : LH X b tab c9 w9) {k23 : St → Nat → Nat → Nat → Nat → Int32 → Prop} (hk23 : ∀ (σ : St) (x0 : Nat) (x1 : Nat) (x2 : Nat) (x3 : Nat) (x4 : Int32), k23 σ x0 x1 x2 x3 x4 → G MtL_law X σ 23 [(0, rv x0), (1, rv x1), (2, rv x2), (3, rv x3), (4, .int x4)] []) {σ : St} {x0 : Nat} {x1 : Nat} {x2 : Nat} {x3 : Nat} {x4 : Int32} (hf : pL_law_1869 c9 w9 k23 σ x0 x1 x2 x3 x4) : G MtL_law X σ 1869 [(0, rv x0), (1, rv x1), (2, rv x2), (3, rv x3), (4, .int x4)] [] := by
  unfold pL_law_1869 at hf
  refine g_aload_n (j := 1) dL_law_1869 rfl rfl ?_
  refine g_aload_n (j := 0) dL_law_1870 rfl rfl ?_
  refine g_iload (j := 4) dL_law_1871 rfl ?_
  refine g_iconst (v := 1) dL_law_1873 (by decide) ?_
  refine g_iadd dL_law_1874 ?_
  obtain ⟨v1, ev1, hf⟩ := hf
  refine g_iald dL_law_1875 ev1 ?_
  refine g_aload_n (j := 3) dL_law_1876 rfl rfl ?_
  obtain ⟨σ2, v3, eσ2, hf⟩ := hf
  refine g_callW (n := 3) dL_law_1877 (wL_out _ hL.1 eσ2) ⟨t_1831, by decide, by decide, ⟨by decide, by decide⟩, by decide +kernel, t_0⟩ t_1829 t_1830 rfl (Nat.le_trans (cat_le _) (Nat.le_of_ble_eq_true rfl)) rfl (fun z4 hz4 => ?_)
  replace hf := hf z4 hz4
  refine g_istore (i := 5) (L' := [(5, .int v3), (0, rv x0), (1, rv x1), (2, rv x2), (3, rv x3), (4, .int x4)]) dL_law_1880 (Nat.le_of_ble_eq_true rfl) rfl ?_
  refine g_aload_n (j := 3) dL_law_1882 rfl rfl ?_
  refine g_aload_n (j := 1) dL_law_1883 rfl rfl ?_
  refine g_iload (j := 5) dL_law_1884 rfl ?_
  refine g_iconst (v := 1) dL_law_1886 (by decide) ?_
  refine g_iadd dL_law_1887 ?_
  obtain ⟨v5, ev5, hf⟩ := hf
  refine g_iald dL_law_1888 ev5 ?_
  obtain ⟨_, h8, hf⟩ := hf
  obtain ⟨σ6, v7, eσ6, hf⟩ := hf
  refine g_callV_i dL_law_1889 (wX12_out _ eσ6) (okX12_out _ (by decide) (by decide)) (ckK_el h8) hc16 t_2731 t_2732 t_2733 rfl (Nat.le_trans (cat_le _) (Nat.le_of_ble_eq_true rfl)) rfl ?_
  refine g_istore (i := 6) (L' := [(6, .int v7), (5, .int v3), (0, rv x0), (1, rv x1), (2, rv x2), (3, rv x3), (4, .int x4)]) dL_law_1892 (Nat.le_of_ble_eq_true rfl) rfl ?_
  refine g_aload_n (j := 4) dL_law_1894 rfl rfl ?_
  obtain ⟨_, h11, hf⟩ := hf
  obtain ⟨σ9, v10, eσ9, hf⟩ := hf
  refine g_callV_i dL_law_1895 (wX12_thrown _ eσ9) (okX12_thrown _ (by decide) (by decide)) (ckK_el h11) hc16 t_1892 t_1893 t_1894 rfl (Nat.le_trans (cat_le _) (Nat.le_of_ble_eq_true rfl)) rfl ?_
  refine g_iload (j := 1) dL_law_1898 rfl ?_
  refine g_icmp_eq (tgt := 1905) dL_law_1900 (by decide) (fun c12 => ?_) (fun c12 => ?_)
  · rw [if_pos c12] at hf
    refine g_iload (j := 1) dL_law_1905 rfl ?_
    refine g_if_ne (tgt := 1922) dL_law_1907 (by decide) (fun c13 => ?_) (fun c13 => ?_)
    · rw [if_neg c13] at hf
      refine g_sub (L' := [(0, rv x0), (1, rv x1), (2, rv x2), (3, rv x3), (4, .int x4)]) [2, 3, 4, 5, 6] rfl ?_
      exact bL_law_1922 hL hk23 hf
    · rw [if_pos c13] at hf
      refine g_aload_n (j := 5) dL_law_1910 rfl rfl ?_
      refine g_iconst (v := 0) dL_law_1911 (by decide) ?_
      obtain ⟨v14, ev14, hf⟩ := hf
      refine g_jld dL_law_1912 ev14 ?_
      refine g_iload (j := 0) dL_law_1913 rfl ?_
      refine g_i2l dL_law_1915 rfl ?_
      refine g_lcmp dL_law_1916 ?_
      refine g_if_eq (tgt := 1922) dL_law_1917 (by decide) (fun c15 => ?_) (fun c15 => ?_)
      · rw [if_pos c15] at hf
        refine g_sub (L' := [(0, rv x0), (1, rv x1), (2, rv x2), (3, rv x3), (4, .int x4)]) [2, 3, 4, 5, 6] rfl ?_
        exact bL_law_1922 hL hk23 hf
      · rw [if_neg c15] at hf
        refine g_iconst (v := 0) dL_law_1920 (by decide) ?_
        exact hf.elim
  · rw [if_neg c12] at hf
    refine g_iconst (v := 0) dL_law_1903 (by decide) ?_
    exact hf.elim

set_option maxRecDepth 100000 in
set_option maxHeartbeats 4000000 in
theorem bL_law_1978 {X : Xt} {b c9 w9 : Nat} {tab : List ExceptionTableEntry} (hL : LH X b tab c9 w9) {k23 : St → Nat → Nat → Nat → Nat → Int32 → Prop} (hk23 : ∀ (σ : St) (x0 : Nat) (x1 : Nat) (x2 : Nat) (x3 : Nat) (x4 : Int32), k23 σ x0 x1 x2 x3 x4 → G MtL_law X σ 23 [(0, rv x0), (1, rv x1), (2, rv x2), (3, rv x3), (4, .int x4)] []) {σ : St} {x0 : Nat} {x1 : Nat} {x2 : Nat} {x3 : Nat} {x4 : Int32} (hf : pL_law_1978 c9 w9 k23 σ x0 x1 x2 x3 x4) : G MtL_law X σ 1978 [(0, rv x0), (1, rv x1), (2, rv x2), (3, rv x3), (4, .int x4)] [] := by
  unfold pL_law_1978 at hf
  refine g_goto (tgt := 2380) dL_law_1978 (by decide) ?_
  exact bL_law_2380 hL hk23 hf

set_option maxRecDepth 100000 in
set_option maxHeartbeats 4000000 in
theorem bL_law_1925 {X : Xt} {b c9 w9 : Nat} {tab : List ExceptionTableEntry} (hL : LH X b tab c9 w9) {k23 : St → Nat → Nat → Nat → Nat → Int32 → Prop} (hk23 : ∀ (σ : St) (x0 : Nat) (x1 : Nat) (x2 : Nat) (x3 : Nat) (x4 : Int32), k23 σ x0 x1 x2 x3 x4 → G MtL_law X σ 23 [(0, rv x0), (1, rv x1), (2, rv x2), (3, rv x3), (4, .int x4)] []) {σ : St} {x0 : Nat} {x1 : Nat} {x2 : Nat} {x3 : Nat} {x4 : Int32} (hf : pL_law_1925 c9 w9 k23 σ x0 x1 x2 x3 x4) : G MtL_law X σ 1925 [(0, rv x0), (1, rv x1), (2, rv x2), (3, rv x3), (4, .int x4)] [] := by
  unfold pL_law_1925 at hf
  refine g_aload_n (j := 1) dL_law_1925 rfl rfl ?_
  refine g_aload_n (j := 0) dL_law_1926 rfl rfl ?_
  refine g_iload (j := 4) dL_law_1927 rfl ?_
  refine g_iconst (v := 1) dL_law_1929 (by decide) ?_
  refine g_iadd dL_law_1930 ?_
  obtain ⟨v1, ev1, hf⟩ := hf
  refine g_iald dL_law_1931 ev1 ?_
  refine g_aload_n (j := 3) dL_law_1932 rfl rfl ?_
  obtain ⟨σ2, v3, eσ2, hf⟩ := hf
  refine g_callW (n := 3) dL_law_1933 (wL_empty _ hL.1 eσ2) ⟨t_1847, by decide, by decide, ⟨by decide, by decide⟩, by decide +kernel, t_0⟩ t_1845 t_1846 rfl (Nat.le_trans (cat_le _) (Nat.le_of_ble_eq_true rfl)) rfl (fun z4 hz4 => ?_)
  replace hf := hf z4 hz4
  refine g_istore (i := 5) (L' := [(5, .int v3), (0, rv x0), (1, rv x1), (2, rv x2), (3, rv x3), (4, .int x4)]) dL_law_1936 (Nat.le_of_ble_eq_true rfl) rfl ?_
  refine g_aload_n (j := 3) dL_law_1938 rfl rfl ?_
  refine g_aload_n (j := 1) dL_law_1939 rfl rfl ?_
  refine g_iload (j := 5) dL_law_1940 rfl ?_
  refine g_iconst (v := 1) dL_law_1942 (by decide) ?_
  refine g_iadd dL_law_1943 ?_
  obtain ⟨v5, ev5, hf⟩ := hf
  refine g_iald dL_law_1944 ev5 ?_
  obtain ⟨_, h8, hf⟩ := hf
  obtain ⟨σ6, v7, eσ6, hf⟩ := hf
  refine g_callV_i dL_law_1945 (wX12_empty _ eσ6) (okX12_empty _ (by decide) (by decide)) (ckK_el h8) hc16 t_2739 t_2740 t_2741 rfl (Nat.le_trans (cat_le _) (Nat.le_of_ble_eq_true rfl)) rfl ?_
  refine g_istore (i := 6) (L' := [(6, .int v7), (5, .int v3), (0, rv x0), (1, rv x1), (2, rv x2), (3, rv x3), (4, .int x4)]) dL_law_1948 (Nat.le_of_ble_eq_true rfl) rfl ?_
  refine g_aload_n (j := 4) dL_law_1950 rfl rfl ?_
  obtain ⟨_, h11, hf⟩ := hf
  obtain ⟨σ9, v10, eσ9, hf⟩ := hf
  refine g_callV_i dL_law_1951 (wX12_thrown _ eσ9) (okX12_thrown _ (by decide) (by decide)) (ckK_el h11) hc16 t_1892 t_1893 t_1894 rfl (Nat.le_trans (cat_le _) (Nat.le_of_ble_eq_true rfl)) rfl ?_
  refine g_iload (j := 1) dL_law_1954 rfl ?_
  refine g_icmp_eq (tgt := 1961) dL_law_1956 (by decide) (fun c12 => ?_) (fun c12 => ?_)
  · rw [if_pos c12] at hf
    refine g_iload (j := 1) dL_law_1961 rfl ?_
    refine g_if_ne (tgt := 1978) dL_law_1963 (by decide) (fun c13 => ?_) (fun c13 => ?_)
    · rw [if_neg c13] at hf
      refine g_sub (L' := [(0, rv x0), (1, rv x1), (2, rv x2), (3, rv x3), (4, .int x4)]) [2, 3, 4, 5, 6] rfl ?_
      exact bL_law_1978 hL hk23 hf
    · rw [if_pos c13] at hf
      refine g_aload_n (j := 5) dL_law_1966 rfl rfl ?_
      refine g_iconst (v := 0) dL_law_1967 (by decide) ?_
      obtain ⟨v14, ev14, hf⟩ := hf
      refine g_jld dL_law_1968 ev14 ?_
      refine g_iload (j := 0) dL_law_1969 rfl ?_
      refine g_i2l dL_law_1971 rfl ?_
      refine g_lcmp dL_law_1972 ?_
      refine g_if_eq (tgt := 1978) dL_law_1973 (by decide) (fun c15 => ?_) (fun c15 => ?_)
      · rw [if_pos c15] at hf
        refine g_sub (L' := [(0, rv x0), (1, rv x1), (2, rv x2), (3, rv x3), (4, .int x4)]) [2, 3, 4, 5, 6] rfl ?_
        exact bL_law_1978 hL hk23 hf
      · rw [if_neg c15] at hf
        refine g_iconst (v := 0) dL_law_1976 (by decide) ?_
        exact hf.elim
  · rw [if_neg c12] at hf
    refine g_iconst (v := 0) dL_law_1959 (by decide) ?_
    exact hf.elim

set_option maxRecDepth 100000 in
set_option maxHeartbeats 4000000 in
theorem bL_law_2062 {X : Xt} {b c9 w9 : Nat} {tab : List ExceptionTableEntry} (hL : LH X b tab c9 w9) {k23 : St → Nat → Nat → Nat → Nat → Int32 → Prop} (hk23 : ∀ (σ : St) (x0 : Nat) (x1 : Nat) (x2 : Nat) (x3 : Nat) (x4 : Int32), k23 σ x0 x1 x2 x3 x4 → G MtL_law X σ 23 [(0, rv x0), (1, rv x1), (2, rv x2), (3, rv x3), (4, .int x4)] []) {σ : St} {x0 : Nat} {x1 : Nat} {x2 : Nat} {x3 : Nat} {x4 : Int32} (hf : pL_law_2062 c9 w9 k23 σ x0 x1 x2 x3 x4) : G MtL_law X σ 2062 [(0, rv x0), (1, rv x1), (2, rv x2), (3, rv x3), (4, .int x4)] [] := by
  unfold pL_law_2062 at hf
  refine g_goto (tgt := 2380) dL_law_2062 (by decide) ?_
  exact bL_law_2380 hL hk23 hf

set_option maxRecDepth 100000 in
set_option maxHeartbeats 4000000 in
theorem bL_law_2029 {X : Xt} {b c9 w9 : Nat} {tab : List ExceptionTableEntry} (hL : LH X b tab c9 w9) {k23 : St → Nat → Nat → Nat → Nat → Int32 → Prop} (hk23 : ∀ (σ : St) (x0 : Nat) (x1 : Nat) (x2 : Nat) (x3 : Nat) (x4 : Int32), k23 σ x0 x1 x2 x3 x4 → G MtL_law X σ 23 [(0, rv x0), (1, rv x1), (2, rv x2), (3, rv x3), (4, .int x4)] []) {σ : St} {x0 : Nat} {x1 : Nat} {x2 : Nat} {x3 : Nat} {x4 : Int32} {x5 : Int32} {y0 : Nat} {y1 : Int32} {y2 : Int32} (hf : pL_law_2029 c9 w9 k23 σ x0 x1 x2 x3 x4 x5 y0 y1 y2) : G MtL_law X σ 2029 [(0, rv x0), (1, rv x1), (2, rv x2), (3, rv x3), (4, .int x4), (5, .int x5)] [.int y2, .int y1, rv y0] := by
  unfold pL_law_2029 at hf
  obtain ⟨_, h3, hf⟩ := hf
  obtain ⟨σ1, v2, eσ1, hf⟩ := hf
  refine g_callV_i dL_law_2029 (wX12_count _ eσ1) (okX12_count _ (by decide) (by decide)) (ckK_el h3) hc16 t_2743 t_2744 t_2745 rfl (Nat.le_trans (cat_le _) (Nat.le_of_ble_eq_true rfl)) rfl ?_
  refine g_istore (i := 6) (L' := [(6, .int v2), (0, rv x0), (1, rv x1), (2, rv x2), (3, rv x3), (4, .int x4), (5, .int x5)]) dL_law_2032 (Nat.le_of_ble_eq_true rfl) rfl ?_
  refine g_aload_n (j := 3) dL_law_2034 rfl rfl ?_
  obtain ⟨_, h6, hf⟩ := hf
  obtain ⟨σ4, v5, eσ4, hf⟩ := hf
  refine g_callV_i dL_law_2035 (wX12_thrown _ eσ4) (okX12_thrown _ (by decide) (by decide)) (ckK_el h6) hc16 t_1892 t_1893 t_1894 rfl (Nat.le_trans (cat_le _) (Nat.le_of_ble_eq_true rfl)) rfl ?_
  refine g_iload (j := 6) dL_law_2038 rfl ?_
  refine g_icmp_eq (tgt := 2045) dL_law_2040 (by decide) (fun c7 => ?_) (fun c7 => ?_)
  · rw [if_pos c7] at hf
    refine g_iload (j := 6) dL_law_2045 rfl ?_
    refine g_if_ne (tgt := 2062) dL_law_2047 (by decide) (fun c8 => ?_) (fun c8 => ?_)
    · rw [if_neg c8] at hf
      refine g_sub (L' := [(0, rv x0), (1, rv x1), (2, rv x2), (3, rv x3), (4, .int x4)]) [1, 2, 3, 4, 5] rfl ?_
      exact bL_law_2062 hL hk23 hf
    · rw [if_pos c8] at hf
      refine g_aload_n (j := 4) dL_law_2050 rfl rfl ?_
      refine g_iconst (v := 0) dL_law_2051 (by decide) ?_
      obtain ⟨v9, ev9, hf⟩ := hf
      refine g_jld dL_law_2052 ev9 ?_
      refine g_iload (j := 0) dL_law_2053 rfl ?_
      refine g_i2l dL_law_2055 rfl ?_
      refine g_lcmp dL_law_2056 ?_
      refine g_if_eq (tgt := 2062) dL_law_2057 (by decide) (fun c10 => ?_) (fun c10 => ?_)
      · rw [if_pos c10] at hf
        refine g_sub (L' := [(0, rv x0), (1, rv x1), (2, rv x2), (3, rv x3), (4, .int x4)]) [1, 2, 3, 4, 5] rfl ?_
        exact bL_law_2062 hL hk23 hf
      · rw [if_neg c10] at hf
        refine g_iconst (v := 0) dL_law_2060 (by decide) ?_
        exact hf.elim
  · rw [if_neg c7] at hf
    refine g_iconst (v := 0) dL_law_2043 (by decide) ?_
    exact hf.elim

set_option maxRecDepth 100000 in
set_option maxHeartbeats 4000000 in
theorem bL_law_2002 {X : Xt} {b c9 w9 : Nat} {tab : List ExceptionTableEntry} (hL : LH X b tab c9 w9) {k23 : St → Nat → Nat → Nat → Nat → Int32 → Prop} (hk23 : ∀ (σ : St) (x0 : Nat) (x1 : Nat) (x2 : Nat) (x3 : Nat) (x4 : Int32), k23 σ x0 x1 x2 x3 x4 → G MtL_law X σ 23 [(0, rv x0), (1, rv x1), (2, rv x2), (3, rv x3), (4, .int x4)] []) {σ : St} {x0 : Nat} {x1 : Nat} {x2 : Nat} {x3 : Nat} {x4 : Int32} {y0 : Nat} {y1 : Int32} {y2 : Int32} (hf : pL_law_2002 c9 w9 k23 σ x0 x1 x2 x3 x4 y0 y1 y2) : G MtL_law X σ 2002 [(0, rv x0), (1, rv x1), (2, rv x2), (3, rv x3), (4, .int x4)] [.int y2, .int y1, rv y0] := by
  unfold pL_law_2002 at hf
  refine g_aload_n (j := 3) dL_law_2002 rfl rfl ?_
  obtain ⟨σ1, v2, eσ1, hf⟩ := hf
  refine g_callW (n := 4) dL_law_2003 (wL_count _ hL.1 eσ1) ⟨t_1856, by decide, by decide, ⟨by decide, by decide⟩, by decide +kernel, t_0⟩ t_1854 t_1855 rfl (Nat.le_trans (cat_le _) (Nat.le_of_ble_eq_true rfl)) rfl (fun z3 hz3 => ?_)
  replace hf := hf z3 hz3
  refine g_istore (i := 5) (L' := [(5, .int v2), (0, rv x0), (1, rv x1), (2, rv x2), (3, rv x3), (4, .int x4)]) dL_law_2006 (Nat.le_of_ble_eq_true rfl) rfl ?_
  refine g_aload_n (j := 3) dL_law_2008 rfl rfl ?_
  refine g_aload_n (j := 1) dL_law_2009 rfl rfl ?_
  refine g_iload (j := 5) dL_law_2010 rfl ?_
  refine g_iconst (v := 1) dL_law_2012 (by decide) ?_
  refine g_iadd dL_law_2013 ?_
  obtain ⟨v4, ev4, hf⟩ := hf
  refine g_iald dL_law_2014 ev4 ?_
  refine g_aload_n (j := 1) dL_law_2015 rfl rfl ?_
  refine g_iload (j := 5) dL_law_2016 rfl ?_
  refine g_iconst (v := 2) dL_law_2018 (by decide) ?_
  refine g_iadd dL_law_2019 ?_
  obtain ⟨v5, ev5, hf⟩ := hf
  refine g_iald dL_law_2020 ev5 ?_
  refine g_if_eq (tgt := 2028) dL_law_2021 (by decide) (fun c6 => ?_) (fun c6 => ?_)
  · rw [if_pos c6] at hf
    refine g_iconst (v := 0) dL_law_2028 (by decide) ?_
    refine g_sub (L' := [(0, rv x0), (1, rv x1), (2, rv x2), (3, rv x3), (4, .int x4), (5, .int v2)]) [1, 2, 3, 4, 5, 0] rfl ?_
    exact bL_law_2029 hL hk23 hf
  · rw [if_neg c6] at hf
    refine g_iconst (v := 1) dL_law_2024 (by decide) ?_
    refine g_goto (tgt := 2029) dL_law_2025 (by decide) ?_
    refine g_sub (L' := [(0, rv x0), (1, rv x1), (2, rv x2), (3, rv x3), (4, .int x4), (5, .int v2)]) [1, 2, 3, 4, 5, 0] rfl ?_
    exact bL_law_2029 hL hk23 hf

set_option maxRecDepth 100000 in
set_option maxHeartbeats 4000000 in
theorem bL_law_1981 {X : Xt} {b c9 w9 : Nat} {tab : List ExceptionTableEntry} (hL : LH X b tab c9 w9) {k23 : St → Nat → Nat → Nat → Nat → Int32 → Prop} (hk23 : ∀ (σ : St) (x0 : Nat) (x1 : Nat) (x2 : Nat) (x3 : Nat) (x4 : Int32), k23 σ x0 x1 x2 x3 x4 → G MtL_law X σ 23 [(0, rv x0), (1, rv x1), (2, rv x2), (3, rv x3), (4, .int x4)] []) {σ : St} {x0 : Nat} {x1 : Nat} {x2 : Nat} {x3 : Nat} {x4 : Int32} (hf : pL_law_1981 c9 w9 k23 σ x0 x1 x2 x3 x4) : G MtL_law X σ 1981 [(0, rv x0), (1, rv x1), (2, rv x2), (3, rv x3), (4, .int x4)] [] := by
  unfold pL_law_1981 at hf
  refine g_aload_n (j := 1) dL_law_1981 rfl rfl ?_
  refine g_aload_n (j := 0) dL_law_1982 rfl rfl ?_
  refine g_iload (j := 4) dL_law_1983 rfl ?_
  refine g_iconst (v := 1) dL_law_1985 (by decide) ?_
  refine g_iadd dL_law_1986 ?_
  obtain ⟨v1, ev1, hf⟩ := hf
  refine g_iald dL_law_1987 ev1 ?_
  refine g_aload_n (j := 0) dL_law_1988 rfl rfl ?_
  refine g_iload (j := 4) dL_law_1989 rfl ?_
  refine g_iconst (v := 2) dL_law_1991 (by decide) ?_
  refine g_iadd dL_law_1992 ?_
  obtain ⟨v2, ev2, hf⟩ := hf
  refine g_iald dL_law_1993 ev2 ?_
  refine g_if_eq (tgt := 2001) dL_law_1994 (by decide) (fun c3 => ?_) (fun c3 => ?_)
  · rw [if_pos c3] at hf
    refine g_iconst (v := 0) dL_law_2001 (by decide) ?_
    exact bL_law_2002 hL hk23 hf
  · rw [if_neg c3] at hf
    refine g_iconst (v := 1) dL_law_1997 (by decide) ?_
    refine g_goto (tgt := 2002) dL_law_1998 (by decide) ?_
    exact bL_law_2002 hL hk23 hf

set_option maxRecDepth 100000 in
set_option maxHeartbeats 4000000 in
theorem bL_law_2130 {X : Xt} {b c9 w9 : Nat} {tab : List ExceptionTableEntry} (hL : LH X b tab c9 w9) {k23 : St → Nat → Nat → Nat → Nat → Int32 → Prop} (hk23 : ∀ (σ : St) (x0 : Nat) (x1 : Nat) (x2 : Nat) (x3 : Nat) (x4 : Int32), k23 σ x0 x1 x2 x3 x4 → G MtL_law X σ 23 [(0, rv x0), (1, rv x1), (2, rv x2), (3, rv x3), (4, .int x4)] []) {σ : St} {x0 : Nat} {x1 : Nat} {x2 : Nat} {x3 : Nat} {x4 : Int32} (hf : pL_law_2130 c9 w9 k23 σ x0 x1 x2 x3 x4) : G MtL_law X σ 2130 [(0, rv x0), (1, rv x1), (2, rv x2), (3, rv x3), (4, .int x4)] [] := by
  unfold pL_law_2130 at hf
  refine g_goto (tgt := 2380) dL_law_2130 (by decide) ?_
  exact bL_law_2380 hL hk23 hf

set_option maxRecDepth 100000 in
set_option maxHeartbeats 4000000 in
theorem bL_law_2065 {X : Xt} {b c9 w9 : Nat} {tab : List ExceptionTableEntry} (hL : LH X b tab c9 w9) {k23 : St → Nat → Nat → Nat → Nat → Int32 → Prop} (hk23 : ∀ (σ : St) (x0 : Nat) (x1 : Nat) (x2 : Nat) (x3 : Nat) (x4 : Int32), k23 σ x0 x1 x2 x3 x4 → G MtL_law X σ 23 [(0, rv x0), (1, rv x1), (2, rv x2), (3, rv x3), (4, .int x4)] []) {σ : St} {x0 : Nat} {x1 : Nat} {x2 : Nat} {x3 : Nat} {x4 : Int32} (hf : pL_law_2065 c9 w9 k23 σ x0 x1 x2 x3 x4) : G MtL_law X σ 2065 [(0, rv x0), (1, rv x1), (2, rv x2), (3, rv x3), (4, .int x4)] [] := by
  unfold pL_law_2065 at hf
  refine g_aload_n (j := 1) dL_law_2065 rfl rfl ?_
  refine g_aload_n (j := 0) dL_law_2066 rfl rfl ?_
  refine g_iload (j := 4) dL_law_2067 rfl ?_
  refine g_iconst (v := 1) dL_law_2069 (by decide) ?_
  refine g_iadd dL_law_2070 ?_
  obtain ⟨v1, ev1, hf⟩ := hf
  refine g_iald dL_law_2071 ev1 ?_
  refine g_aload_n (j := 0) dL_law_2072 rfl rfl ?_
  refine g_iload (j := 4) dL_law_2073 rfl ?_
  refine g_iconst (v := 2) dL_law_2075 (by decide) ?_
  refine g_iadd dL_law_2076 ?_
  obtain ⟨v2, ev2, hf⟩ := hf
  refine g_iald dL_law_2077 ev2 ?_
  refine g_aload_n (j := 3) dL_law_2078 rfl rfl ?_
  obtain ⟨σ3, v4, eσ3, hf⟩ := hf
  refine g_callW (n := 4) dL_law_2079 (wL_takeLeast _ hL.1 eσ3) ⟨t_1863, by decide, by decide, ⟨by decide, by decide⟩, by decide +kernel, t_0⟩ t_1861 t_1862 rfl (Nat.le_trans (cat_le _) (Nat.le_of_ble_eq_true rfl)) rfl (fun z5 hz5 => ?_)
  replace hf := hf z5 hz5
  refine g_istore (i := 5) (L' := [(5, .int v4), (0, rv x0), (1, rv x1), (2, rv x2), (3, rv x3), (4, .int x4)]) dL_law_2082 (Nat.le_of_ble_eq_true rfl) rfl ?_
  refine g_aload_n (j := 3) dL_law_2084 rfl rfl ?_
  refine g_aload_n (j := 1) dL_law_2085 rfl rfl ?_
  refine g_iload (j := 5) dL_law_2086 rfl ?_
  refine g_iconst (v := 1) dL_law_2088 (by decide) ?_
  refine g_iadd dL_law_2089 ?_
  obtain ⟨v6, ev6, hf⟩ := hf
  refine g_iald dL_law_2090 ev6 ?_
  refine g_aload_n (j := 1) dL_law_2091 rfl rfl ?_
  refine g_iload (j := 5) dL_law_2092 rfl ?_
  refine g_iconst (v := 2) dL_law_2094 (by decide) ?_
  refine g_iadd dL_law_2095 ?_
  obtain ⟨v7, ev7, hf⟩ := hf
  refine g_iald dL_law_2096 ev7 ?_
  obtain ⟨_, h10, hf⟩ := hf
  obtain ⟨σ8, v9, eσ8, hf⟩ := hf
  refine g_callV_i dL_law_2097 (wX12_takeLeast _ eσ8) (okX12_takeLeast _ (by decide) (by decide)) (ckK_el h10) hc16 t_2747 t_2748 t_2749 rfl (Nat.le_trans (cat_le _) (Nat.le_of_ble_eq_true rfl)) rfl ?_
  refine g_istore (i := 6) (L' := [(6, .int v9), (5, .int v4), (0, rv x0), (1, rv x1), (2, rv x2), (3, rv x3), (4, .int x4)]) dL_law_2100 (Nat.le_of_ble_eq_true rfl) rfl ?_
  refine g_aload_n (j := 4) dL_law_2102 rfl rfl ?_
  obtain ⟨_, h13, hf⟩ := hf
  obtain ⟨σ11, v12, eσ11, hf⟩ := hf
  refine g_callV_i dL_law_2103 (wX12_thrown _ eσ11) (okX12_thrown _ (by decide) (by decide)) (ckK_el h13) hc16 t_1892 t_1893 t_1894 rfl (Nat.le_trans (cat_le _) (Nat.le_of_ble_eq_true rfl)) rfl ?_
  refine g_iload (j := 1) dL_law_2106 rfl ?_
  refine g_icmp_eq (tgt := 2113) dL_law_2108 (by decide) (fun c14 => ?_) (fun c14 => ?_)
  · rw [if_pos c14] at hf
    refine g_iload (j := 1) dL_law_2113 rfl ?_
    refine g_if_ne (tgt := 2130) dL_law_2115 (by decide) (fun c15 => ?_) (fun c15 => ?_)
    · rw [if_neg c15] at hf
      refine g_sub (L' := [(0, rv x0), (1, rv x1), (2, rv x2), (3, rv x3), (4, .int x4)]) [2, 3, 4, 5, 6] rfl ?_
      exact bL_law_2130 hL hk23 hf
    · rw [if_pos c15] at hf
      refine g_aload_n (j := 5) dL_law_2118 rfl rfl ?_
      refine g_iconst (v := 0) dL_law_2119 (by decide) ?_
      obtain ⟨v16, ev16, hf⟩ := hf
      refine g_jld dL_law_2120 ev16 ?_
      refine g_iload (j := 0) dL_law_2121 rfl ?_
      refine g_i2l dL_law_2123 rfl ?_
      refine g_lcmp dL_law_2124 ?_
      refine g_if_eq (tgt := 2130) dL_law_2125 (by decide) (fun c17 => ?_) (fun c17 => ?_)
      · rw [if_pos c17] at hf
        refine g_sub (L' := [(0, rv x0), (1, rv x1), (2, rv x2), (3, rv x3), (4, .int x4)]) [2, 3, 4, 5, 6] rfl ?_
        exact bL_law_2130 hL hk23 hf
      · rw [if_neg c17] at hf
        refine g_iconst (v := 0) dL_law_2128 (by decide) ?_
        exact hf.elim
  · rw [if_neg c14] at hf
    refine g_iconst (v := 0) dL_law_2111 (by decide) ?_
    exact hf.elim

set_option maxRecDepth 100000 in
set_option maxHeartbeats 4000000 in
theorem bL_law_2186 {X : Xt} {b c9 w9 : Nat} {tab : List ExceptionTableEntry} (hL : LH X b tab c9 w9) {k23 : St → Nat → Nat → Nat → Nat → Int32 → Prop} (hk23 : ∀ (σ : St) (x0 : Nat) (x1 : Nat) (x2 : Nat) (x3 : Nat) (x4 : Int32), k23 σ x0 x1 x2 x3 x4 → G MtL_law X σ 23 [(0, rv x0), (1, rv x1), (2, rv x2), (3, rv x3), (4, .int x4)] []) {σ : St} {x0 : Nat} {x1 : Nat} {x2 : Nat} {x3 : Nat} {x4 : Int32} (hf : pL_law_2186 c9 w9 k23 σ x0 x1 x2 x3 x4) : G MtL_law X σ 2186 [(0, rv x0), (1, rv x1), (2, rv x2), (3, rv x3), (4, .int x4)] [] := by
  unfold pL_law_2186 at hf
  refine g_goto (tgt := 2380) dL_law_2186 (by decide) ?_
  exact bL_law_2380 hL hk23 hf

set_option maxRecDepth 100000 in
set_option maxHeartbeats 4000000 in
theorem bL_law_2133 {X : Xt} {b c9 w9 : Nat} {tab : List ExceptionTableEntry} (hL : LH X b tab c9 w9) {k23 : St → Nat → Nat → Nat → Nat → Int32 → Prop} (hk23 : ∀ (σ : St) (x0 : Nat) (x1 : Nat) (x2 : Nat) (x3 : Nat) (x4 : Int32), k23 σ x0 x1 x2 x3 x4 → G MtL_law X σ 23 [(0, rv x0), (1, rv x1), (2, rv x2), (3, rv x3), (4, .int x4)] []) {σ : St} {x0 : Nat} {x1 : Nat} {x2 : Nat} {x3 : Nat} {x4 : Int32} (hf : pL_law_2133 c9 w9 k23 σ x0 x1 x2 x3 x4) : G MtL_law X σ 2133 [(0, rv x0), (1, rv x1), (2, rv x2), (3, rv x3), (4, .int x4)] [] := by
  unfold pL_law_2133 at hf
  refine g_aload_n (j := 1) dL_law_2133 rfl rfl ?_
  refine g_aload_n (j := 0) dL_law_2134 rfl rfl ?_
  refine g_iload (j := 4) dL_law_2135 rfl ?_
  refine g_iconst (v := 1) dL_law_2137 (by decide) ?_
  refine g_iadd dL_law_2138 ?_
  obtain ⟨v1, ev1, hf⟩ := hf
  refine g_iald dL_law_2139 ev1 ?_
  refine g_aload_n (j := 3) dL_law_2140 rfl rfl ?_
  obtain ⟨σ2, v3, eσ2, hf⟩ := hf
  refine g_callW (n := 3) dL_law_2141 (wL_takeNext _ hL.1 eσ2) ⟨t_1870, by decide, by decide, ⟨by decide, by decide⟩, by decide +kernel, t_0⟩ t_1868 t_1869 rfl (Nat.le_trans (cat_le _) (Nat.le_of_ble_eq_true rfl)) rfl (fun z4 hz4 => ?_)
  replace hf := hf z4 hz4
  refine g_istore (i := 5) (L' := [(5, .int v3), (0, rv x0), (1, rv x1), (2, rv x2), (3, rv x3), (4, .int x4)]) dL_law_2144 (Nat.le_of_ble_eq_true rfl) rfl ?_
  refine g_aload_n (j := 3) dL_law_2146 rfl rfl ?_
  refine g_aload_n (j := 1) dL_law_2147 rfl rfl ?_
  refine g_iload (j := 5) dL_law_2148 rfl ?_
  refine g_iconst (v := 1) dL_law_2150 (by decide) ?_
  refine g_iadd dL_law_2151 ?_
  obtain ⟨v5, ev5, hf⟩ := hf
  refine g_iald dL_law_2152 ev5 ?_
  obtain ⟨_, h8, hf⟩ := hf
  obtain ⟨σ6, v7, eσ6, hf⟩ := hf
  refine g_callV_i dL_law_2153 (wX12_takeNext _ eσ6) (okX12_takeNext _ (by decide) (by decide)) (ckK_el h8) hc16 t_2751 t_2752 t_2753 rfl (Nat.le_trans (cat_le _) (Nat.le_of_ble_eq_true rfl)) rfl ?_
  refine g_istore (i := 6) (L' := [(6, .int v7), (5, .int v3), (0, rv x0), (1, rv x1), (2, rv x2), (3, rv x3), (4, .int x4)]) dL_law_2156 (Nat.le_of_ble_eq_true rfl) rfl ?_
  refine g_aload_n (j := 4) dL_law_2158 rfl rfl ?_
  obtain ⟨_, h11, hf⟩ := hf
  obtain ⟨σ9, v10, eσ9, hf⟩ := hf
  refine g_callV_i dL_law_2159 (wX12_thrown _ eσ9) (okX12_thrown _ (by decide) (by decide)) (ckK_el h11) hc16 t_1892 t_1893 t_1894 rfl (Nat.le_trans (cat_le _) (Nat.le_of_ble_eq_true rfl)) rfl ?_
  refine g_iload (j := 1) dL_law_2162 rfl ?_
  refine g_icmp_eq (tgt := 2169) dL_law_2164 (by decide) (fun c12 => ?_) (fun c12 => ?_)
  · rw [if_pos c12] at hf
    refine g_iload (j := 1) dL_law_2169 rfl ?_
    refine g_if_ne (tgt := 2186) dL_law_2171 (by decide) (fun c13 => ?_) (fun c13 => ?_)
    · rw [if_neg c13] at hf
      refine g_sub (L' := [(0, rv x0), (1, rv x1), (2, rv x2), (3, rv x3), (4, .int x4)]) [2, 3, 4, 5, 6] rfl ?_
      exact bL_law_2186 hL hk23 hf
    · rw [if_pos c13] at hf
      refine g_aload_n (j := 5) dL_law_2174 rfl rfl ?_
      refine g_iconst (v := 0) dL_law_2175 (by decide) ?_
      obtain ⟨v14, ev14, hf⟩ := hf
      refine g_jld dL_law_2176 ev14 ?_
      refine g_iload (j := 0) dL_law_2177 rfl ?_
      refine g_i2l dL_law_2179 rfl ?_
      refine g_lcmp dL_law_2180 ?_
      refine g_if_eq (tgt := 2186) dL_law_2181 (by decide) (fun c15 => ?_) (fun c15 => ?_)
      · rw [if_pos c15] at hf
        refine g_sub (L' := [(0, rv x0), (1, rv x1), (2, rv x2), (3, rv x3), (4, .int x4)]) [2, 3, 4, 5, 6] rfl ?_
        exact bL_law_2186 hL hk23 hf
      · rw [if_neg c15] at hf
        refine g_iconst (v := 0) dL_law_2184 (by decide) ?_
        exact hf.elim
  · rw [if_neg c12] at hf
    refine g_iconst (v := 0) dL_law_2167 (by decide) ?_
    exact hf.elim

set_option maxRecDepth 100000 in
set_option maxHeartbeats 4000000 in
theorem bL_law_2254 {X : Xt} {b c9 w9 : Nat} {tab : List ExceptionTableEntry} (hL : LH X b tab c9 w9) {k23 : St → Nat → Nat → Nat → Nat → Int32 → Prop} (hk23 : ∀ (σ : St) (x0 : Nat) (x1 : Nat) (x2 : Nat) (x3 : Nat) (x4 : Int32), k23 σ x0 x1 x2 x3 x4 → G MtL_law X σ 23 [(0, rv x0), (1, rv x1), (2, rv x2), (3, rv x3), (4, .int x4)] []) {σ : St} {x0 : Nat} {x1 : Nat} {x2 : Nat} {x3 : Nat} {x4 : Int32} (hf : pL_law_2254 c9 w9 k23 σ x0 x1 x2 x3 x4) : G MtL_law X σ 2254 [(0, rv x0), (1, rv x1), (2, rv x2), (3, rv x3), (4, .int x4)] [] := by
  unfold pL_law_2254 at hf
  refine g_goto (tgt := 2380) dL_law_2254 (by decide) ?_
  exact bL_law_2380 hL hk23 hf

set_option maxRecDepth 100000 in
set_option maxHeartbeats 4000000 in
theorem bL_law_2189 {X : Xt} {b c9 w9 : Nat} {tab : List ExceptionTableEntry} (hL : LH X b tab c9 w9) {k23 : St → Nat → Nat → Nat → Nat → Int32 → Prop} (hk23 : ∀ (σ : St) (x0 : Nat) (x1 : Nat) (x2 : Nat) (x3 : Nat) (x4 : Int32), k23 σ x0 x1 x2 x3 x4 → G MtL_law X σ 23 [(0, rv x0), (1, rv x1), (2, rv x2), (3, rv x3), (4, .int x4)] []) {σ : St} {x0 : Nat} {x1 : Nat} {x2 : Nat} {x3 : Nat} {x4 : Int32} (hf : pL_law_2189 c9 w9 k23 σ x0 x1 x2 x3 x4) : G MtL_law X σ 2189 [(0, rv x0), (1, rv x1), (2, rv x2), (3, rv x3), (4, .int x4)] [] := by
  unfold pL_law_2189 at hf
  refine g_aload_n (j := 1) dL_law_2189 rfl rfl ?_
  refine g_aload_n (j := 0) dL_law_2190 rfl rfl ?_
  refine g_iload (j := 4) dL_law_2191 rfl ?_
  refine g_iconst (v := 1) dL_law_2193 (by decide) ?_
  refine g_iadd dL_law_2194 ?_
  obtain ⟨v1, ev1, hf⟩ := hf
  refine g_iald dL_law_2195 ev1 ?_
  refine g_aload_n (j := 0) dL_law_2196 rfl rfl ?_
  refine g_iload (j := 4) dL_law_2197 rfl ?_
  refine g_iconst (v := 2) dL_law_2199 (by decide) ?_
  refine g_iadd dL_law_2200 ?_
  obtain ⟨v2, ev2, hf⟩ := hf
  refine g_iald dL_law_2201 ev2 ?_
  refine g_aload_n (j := 3) dL_law_2202 rfl rfl ?_
  obtain ⟨σ3, v4, eσ3, hf⟩ := hf
  refine g_callW (n := 4) dL_law_2203 (wL_takeAll _ hL.1 eσ3) ⟨t_1877, by decide, by decide, ⟨by decide, by decide⟩, by decide +kernel, t_0⟩ t_1875 t_1876 rfl (Nat.le_trans (cat_le _) (Nat.le_of_ble_eq_true rfl)) rfl (fun z5 hz5 => ?_)
  replace hf := hf z5 hz5
  refine g_istore (i := 5) (L' := [(5, .int v4), (0, rv x0), (1, rv x1), (2, rv x2), (3, rv x3), (4, .int x4)]) dL_law_2206 (Nat.le_of_ble_eq_true rfl) rfl ?_
  refine g_aload_n (j := 3) dL_law_2208 rfl rfl ?_
  refine g_aload_n (j := 1) dL_law_2209 rfl rfl ?_
  refine g_iload (j := 5) dL_law_2210 rfl ?_
  refine g_iconst (v := 1) dL_law_2212 (by decide) ?_
  refine g_iadd dL_law_2213 ?_
  obtain ⟨v6, ev6, hf⟩ := hf
  refine g_iald dL_law_2214 ev6 ?_
  refine g_aload_n (j := 1) dL_law_2215 rfl rfl ?_
  refine g_iload (j := 5) dL_law_2216 rfl ?_
  refine g_iconst (v := 2) dL_law_2218 (by decide) ?_
  refine g_iadd dL_law_2219 ?_
  obtain ⟨v7, ev7, hf⟩ := hf
  refine g_iald dL_law_2220 ev7 ?_
  obtain ⟨_, h10, hf⟩ := hf
  obtain ⟨σ8, v9, eσ8, hf⟩ := hf
  refine g_callV_i dL_law_2221 (wX12_takeAll _ eσ8) (okX12_takeAll _ (by decide) (by decide)) (ckK_el h10) hc16 t_2755 t_2756 t_2757 rfl (Nat.le_trans (cat_le _) (Nat.le_of_ble_eq_true rfl)) rfl ?_
  refine g_istore (i := 6) (L' := [(6, .int v9), (5, .int v4), (0, rv x0), (1, rv x1), (2, rv x2), (3, rv x3), (4, .int x4)]) dL_law_2224 (Nat.le_of_ble_eq_true rfl) rfl ?_
  refine g_aload_n (j := 4) dL_law_2226 rfl rfl ?_
  obtain ⟨_, h13, hf⟩ := hf
  obtain ⟨σ11, v12, eσ11, hf⟩ := hf
  refine g_callV_i dL_law_2227 (wX12_thrown _ eσ11) (okX12_thrown _ (by decide) (by decide)) (ckK_el h13) hc16 t_1892 t_1893 t_1894 rfl (Nat.le_trans (cat_le _) (Nat.le_of_ble_eq_true rfl)) rfl ?_
  refine g_iload (j := 1) dL_law_2230 rfl ?_
  refine g_icmp_eq (tgt := 2237) dL_law_2232 (by decide) (fun c14 => ?_) (fun c14 => ?_)
  · rw [if_pos c14] at hf
    refine g_iload (j := 1) dL_law_2237 rfl ?_
    refine g_if_ne (tgt := 2254) dL_law_2239 (by decide) (fun c15 => ?_) (fun c15 => ?_)
    · rw [if_neg c15] at hf
      refine g_sub (L' := [(0, rv x0), (1, rv x1), (2, rv x2), (3, rv x3), (4, .int x4)]) [2, 3, 4, 5, 6] rfl ?_
      exact bL_law_2254 hL hk23 hf
    · rw [if_pos c15] at hf
      refine g_aload_n (j := 5) dL_law_2242 rfl rfl ?_
      refine g_iconst (v := 0) dL_law_2243 (by decide) ?_
      obtain ⟨v16, ev16, hf⟩ := hf
      refine g_jld dL_law_2244 ev16 ?_
      refine g_iload (j := 0) dL_law_2245 rfl ?_
      refine g_i2l dL_law_2247 rfl ?_
      refine g_lcmp dL_law_2248 ?_
      refine g_if_eq (tgt := 2254) dL_law_2249 (by decide) (fun c17 => ?_) (fun c17 => ?_)
      · rw [if_pos c17] at hf
        refine g_sub (L' := [(0, rv x0), (1, rv x1), (2, rv x2), (3, rv x3), (4, .int x4)]) [2, 3, 4, 5, 6] rfl ?_
        exact bL_law_2254 hL hk23 hf
      · rw [if_neg c17] at hf
        refine g_iconst (v := 0) dL_law_2252 (by decide) ?_
        exact hf.elim
  · rw [if_neg c14] at hf
    refine g_iconst (v := 0) dL_law_2235 (by decide) ?_
    exact hf.elim

set_option maxRecDepth 100000 in
set_option maxHeartbeats 4000000 in
theorem bL_law_2257 {X : Xt} {b c9 w9 : Nat} {tab : List ExceptionTableEntry} (hL : LH X b tab c9 w9) {k23 : St → Nat → Nat → Nat → Nat → Int32 → Prop} (hk23 : ∀ (σ : St) (x0 : Nat) (x1 : Nat) (x2 : Nat) (x3 : Nat) (x4 : Int32), k23 σ x0 x1 x2 x3 x4 → G MtL_law X σ 23 [(0, rv x0), (1, rv x1), (2, rv x2), (3, rv x3), (4, .int x4)] []) {σ : St} {x0 : Nat} {x1 : Nat} {x2 : Nat} {x3 : Nat} {x4 : Int32} (hf : pL_law_2257 c9 w9 k23 σ x0 x1 x2 x3 x4) : G MtL_law X σ 2257 [(0, rv x0), (1, rv x1), (2, rv x2), (3, rv x3), (4, .int x4)] [] := by
  unfold pL_law_2257 at hf
  refine g_aload_n (j := 1) dL_law_2257 rfl rfl ?_
  obtain ⟨_, h3, hf⟩ := hf
  obtain ⟨σ1, v2, eσ1, hf⟩ := hf
  refine g_callV_i dL_law_2258 (wX11_undo _ eσ1) (okX11_undo _ (by decide) (by decide)) (ckK_el h3) hc15 t_1078 t_1079 t_1080 rfl (Nat.le_trans (cat_le _) (Nat.le_of_ble_eq_true rfl)) rfl ?_
  refine g_aload_n (j := 2) dL_law_2261 rfl rfl ?_
  obtain ⟨_, h6, hf⟩ := hf
  obtain ⟨σ4, v5, eσ4, hf⟩ := hf
  refine g_callV_i dL_law_2262 (wX12_undo _ eσ4) (okX12_undo _ (by decide) (by decide)) (ckK_el h6) hc16 t_2543 t_2544 t_2545 rfl (Nat.le_trans (cat_le _) (Nat.le_of_ble_eq_true rfl)) rfl ?_
  refine g_icmp_eq (tgt := 2380) dL_law_2265 (by decide) (fun c7 => ?_) (fun c7 => ?_)
  · rw [if_pos c7] at hf
    exact bL_law_2380 hL hk23 hf
  · rw [if_neg c7] at hf
    refine g_iconst (v := 0) dL_law_2268 (by decide) ?_
    exact hf.elim

set_option maxRecDepth 100000 in
set_option maxHeartbeats 4000000 in
theorem bL_law_2270 {X : Xt} {b c9 w9 : Nat} {tab : List ExceptionTableEntry} (hL : LH X b tab c9 w9) {k23 : St → Nat → Nat → Nat → Nat → Int32 → Prop} (hk23 : ∀ (σ : St) (x0 : Nat) (x1 : Nat) (x2 : Nat) (x3 : Nat) (x4 : Int32), k23 σ x0 x1 x2 x3 x4 → G MtL_law X σ 23 [(0, rv x0), (1, rv x1), (2, rv x2), (3, rv x3), (4, .int x4)] []) {σ : St} {x0 : Nat} {x1 : Nat} {x2 : Nat} {x3 : Nat} {x4 : Int32} (hf : pL_law_2270 c9 w9 k23 σ x0 x1 x2 x3 x4) : G MtL_law X σ 2270 [(0, rv x0), (1, rv x1), (2, rv x2), (3, rv x3), (4, .int x4)] [] := by
  unfold pL_law_2270 at hf
  refine g_aload_n (j := 1) dL_law_2270 rfl rfl ?_
  obtain ⟨_, h3, hf⟩ := hf
  obtain ⟨σ1, v2, eσ1, hf⟩ := hf
  refine g_callV_i dL_law_2271 (wX11_redo _ eσ1) (okX11_redo _ (by decide) (by decide)) (ckK_el h3) hc15 t_1082 t_1083 t_1084 rfl (Nat.le_trans (cat_le _) (Nat.le_of_ble_eq_true rfl)) rfl ?_
  refine g_aload_n (j := 2) dL_law_2274 rfl rfl ?_
  obtain ⟨_, h6, hf⟩ := hf
  obtain ⟨σ4, v5, eσ4, hf⟩ := hf
  refine g_callV_i dL_law_2275 (wX12_redo _ eσ4) (okX12_redo _ (by decide) (by decide)) (ckK_el h6) hc16 t_2547 t_2548 t_2549 rfl (Nat.le_trans (cat_le _) (Nat.le_of_ble_eq_true rfl)) rfl ?_
  refine g_icmp_eq (tgt := 2380) dL_law_2278 (by decide) (fun c7 => ?_) (fun c7 => ?_)
  · rw [if_pos c7] at hf
    exact bL_law_2380 hL hk23 hf
  · rw [if_neg c7] at hf
    refine g_iconst (v := 0) dL_law_2281 (by decide) ?_
    exact hf.elim

set_option maxRecDepth 100000 in
set_option maxHeartbeats 4000000 in
theorem bL_law_2321 {X : Xt} {b c9 w9 : Nat} {tab : List ExceptionTableEntry} (hL : LH X b tab c9 w9) {k23 : St → Nat → Nat → Nat → Nat → Int32 → Prop} (hk23 : ∀ (σ : St) (x0 : Nat) (x1 : Nat) (x2 : Nat) (x3 : Nat) (x4 : Int32), k23 σ x0 x1 x2 x3 x4 → G MtL_law X σ 23 [(0, rv x0), (1, rv x1), (2, rv x2), (3, rv x3), (4, .int x4)] []) {σ : St} {x0 : Nat} {x1 : Nat} {x2 : Nat} {x3 : Nat} {x4 : Int32} (hf : pL_law_2321 c9 w9 k23 σ x0 x1 x2 x3 x4) : G MtL_law X σ 2321 [(0, rv x0), (1, rv x1), (2, rv x2), (3, rv x3), (4, .int x4)] [] := by
  unfold pL_law_2321 at hf
  refine g_goto (tgt := 2380) dL_law_2321 (by decide) ?_
  exact bL_law_2380 hL hk23 hf

set_option maxRecDepth 100000 in
set_option maxHeartbeats 4000000 in
theorem bL_law_2283 {X : Xt} {b c9 w9 : Nat} {tab : List ExceptionTableEntry} (hL : LH X b tab c9 w9) {k23 : St → Nat → Nat → Nat → Nat → Int32 → Prop} (hk23 : ∀ (σ : St) (x0 : Nat) (x1 : Nat) (x2 : Nat) (x3 : Nat) (x4 : Int32), k23 σ x0 x1 x2 x3 x4 → G MtL_law X σ 23 [(0, rv x0), (1, rv x1), (2, rv x2), (3, rv x3), (4, .int x4)] []) {σ : St} {x0 : Nat} {x1 : Nat} {x2 : Nat} {x3 : Nat} {x4 : Int32} (hf : pL_law_2283 c9 w9 k23 σ x0 x1 x2 x3 x4) : G MtL_law X σ 2283 [(0, rv x0), (1, rv x1), (2, rv x2), (3, rv x3), (4, .int x4)] [] := by
  unfold pL_law_2283 at hf
  refine g_aload_n (j := 1) dL_law_2283 rfl rfl ?_
  obtain ⟨_, h3, hf⟩ := hf
  obtain ⟨σ1, v2, eσ1, hf⟩ := hf
  refine g_callV_d dL_law_2284 (wX11_meanDigits _ eσ1) (okX11_meanDigits _ (by decide) (by decide)) (ckK_el h3) hc15 t_1086 t_1087 t_1088 rfl (Nat.le_trans (cat_le _) (Nat.le_of_ble_eq_true rfl)) rfl ?_
  refine g_dstore (i := 5) (L' := [(5, .double v2), (0, rv x0), (1, rv x1), (2, rv x2), (3, rv x3), (4, .int x4)]) dL_law_2287 (Nat.le_of_ble_eq_true rfl) rfl ?_
  refine g_aload_n (j := 3) dL_law_2289 rfl rfl ?_
  obtain ⟨_, h6, hf⟩ := hf
  obtain ⟨σ4, v5, eσ4, hf⟩ := hf
  refine g_callV_d dL_law_2290 (wX12_meanDigits _ eσ4) (okX12_meanDigits _ (by decide) (by decide)) (ckK_el h6) hc16 t_2763 t_2764 t_2765 rfl (Nat.le_trans (cat_le _) (Nat.le_of_ble_eq_true rfl)) rfl ?_
  refine g_dstore (i := 7) (L' := [(7, .double v5), (5, .double v2), (0, rv x0), (1, rv x1), (2, rv x2), (3, rv x3), (4, .int x4)]) dL_law_2293 (Nat.le_of_ble_eq_true rfl) rfl ?_
  refine g_dload (j := 1) dL_law_2295 rfl ?_
  refine g_dload (j := 0) dL_law_2297 rfl ?_
  refine g_dcmp dL_law_2299 ?_
  refine g_if_eq (tgt := 2321) dL_law_2300 (by decide) (fun c7 => ?_) (fun c7 => ?_)
  · rw [if_pos c7] at hf
    refine g_sub (L' := [(0, rv x0), (1, rv x1), (2, rv x2), (3, rv x3), (4, .int x4)]) [2, 3, 4, 5, 6] rfl ?_
    exact bL_law_2321 hL hk23 hf
  · rw [if_neg c7] at hf
    refine g_dload (j := 1) dL_law_2303 rfl ?_
    refine g_dload (j := 1) dL_law_2305 rfl ?_
    refine g_dcmp dL_law_2307 ?_
    refine g_if_eq (tgt := 2319) dL_law_2308 (by decide) (fun c8 => ?_) (fun c8 => ?_)
    · rw [if_pos c8] at hf
      refine g_iconst (v := 0) dL_law_2319 (by decide) ?_
      exact hf.elim
    · rw [if_neg c8] at hf
      refine g_dload (j := 0) dL_law_2311 rfl ?_
      refine g_dload (j := 0) dL_law_2313 rfl ?_
      refine g_dcmp dL_law_2315 ?_
      refine g_if_ne (tgt := 2321) dL_law_2316 (by decide) (fun c9 => ?_) (fun c9 => ?_)
      · rw [if_neg c9] at hf
        refine g_sub (L' := [(0, rv x0), (1, rv x1), (2, rv x2), (3, rv x3), (4, .int x4)]) [2, 3, 4, 5, 6] rfl ?_
        exact bL_law_2321 hL hk23 hf
      · rw [if_pos c9] at hf
        refine g_iconst (v := 0) dL_law_2319 (by decide) ?_
        exact hf.elim

set_option maxRecDepth 100000 in
set_option maxHeartbeats 4000000 in
theorem bL_law_2364 {X : Xt} {b c9 w9 : Nat} {tab : List ExceptionTableEntry} (hL : LH X b tab c9 w9) {k23 : St → Nat → Nat → Nat → Nat → Int32 → Prop} (hk23 : ∀ (σ : St) (x0 : Nat) (x1 : Nat) (x2 : Nat) (x3 : Nat) (x4 : Int32), k23 σ x0 x1 x2 x3 x4 → G MtL_law X σ 23 [(0, rv x0), (1, rv x1), (2, rv x2), (3, rv x3), (4, .int x4)] []) {σ : St} {x0 : Nat} {x1 : Nat} {x2 : Nat} {x3 : Nat} {x4 : Int32} (hf : pL_law_2364 c9 w9 k23 σ x0 x1 x2 x3 x4) : G MtL_law X σ 2364 [(0, rv x0), (1, rv x1), (2, rv x2), (3, rv x3), (4, .int x4)] [] := by
  unfold pL_law_2364 at hf
  refine g_goto (tgt := 2380) dL_law_2364 (by decide) ?_
  exact bL_law_2380 hL hk23 hf

set_option maxRecDepth 100000 in
set_option maxHeartbeats 4000000 in
theorem bL_law_2324 {X : Xt} {b c9 w9 : Nat} {tab : List ExceptionTableEntry} (hL : LH X b tab c9 w9) {k23 : St → Nat → Nat → Nat → Nat → Int32 → Prop} (hk23 : ∀ (σ : St) (x0 : Nat) (x1 : Nat) (x2 : Nat) (x3 : Nat) (x4 : Int32), k23 σ x0 x1 x2 x3 x4 → G MtL_law X σ 23 [(0, rv x0), (1, rv x1), (2, rv x2), (3, rv x3), (4, .int x4)] []) {σ : St} {x0 : Nat} {x1 : Nat} {x2 : Nat} {x3 : Nat} {x4 : Int32} (hf : pL_law_2324 c9 w9 k23 σ x0 x1 x2 x3 x4) : G MtL_law X σ 2324 [(0, rv x0), (1, rv x1), (2, rv x2), (3, rv x3), (4, .int x4)] [] := by
  unfold pL_law_2324 at hf
  refine g_aload_n (j := 1) dL_law_2324 rfl rfl ?_
  obtain ⟨_, h3, hf⟩ := hf
  obtain ⟨σ1, v2, eσ1, hf⟩ := hf
  refine g_callV_f dL_law_2325 (wX11_wholes _ eσ1) (okX11_wholes _ (by decide) (by decide)) (ckK_el h3) hc15 t_1090 t_1091 t_1092 rfl (Nat.le_trans (cat_le _) (Nat.le_of_ble_eq_true rfl)) rfl ?_
  obtain ⟨_, h4, hf⟩ := hf
  refine g_f2d dL_law_2328 (ckND_el h4) ?_
  obtain ⟨v5, ev5, hf⟩ := nm_elP hf
  rw [← ev5]
  refine g_dstore (i := 5) (L' := [(5, .double v5), (0, rv x0), (1, rv x1), (2, rv x2), (3, rv x3), (4, .int x4)]) dL_law_2329 (Nat.le_of_ble_eq_true rfl) rfl ?_
  refine g_aload_n (j := 3) dL_law_2331 rfl rfl ?_
  obtain ⟨_, h8, hf⟩ := hf
  obtain ⟨σ6, v7, eσ6, hf⟩ := hf
  refine g_callV_f dL_law_2332 (wX12_wholes _ eσ6) (okX12_wholes _ (by decide) (by decide)) (ckK_el h8) hc16 t_2767 t_2768 t_2769 rfl (Nat.le_trans (cat_le _) (Nat.le_of_ble_eq_true rfl)) rfl ?_
  obtain ⟨_, h9, hf⟩ := hf
  refine g_f2d dL_law_2335 (ckND_el h9) ?_
  obtain ⟨v10, ev10, hf⟩ := nm_elP hf
  rw [← ev10]
  refine g_dstore (i := 7) (L' := [(7, .double v10), (5, .double v5), (0, rv x0), (1, rv x1), (2, rv x2), (3, rv x3), (4, .int x4)]) dL_law_2336 (Nat.le_of_ble_eq_true rfl) rfl ?_
  refine g_dload (j := 1) dL_law_2338 rfl ?_
  refine g_dload (j := 0) dL_law_2340 rfl ?_
  refine g_dcmp dL_law_2342 ?_
  refine g_if_eq (tgt := 2364) dL_law_2343 (by decide) (fun c11 => ?_) (fun c11 => ?_)
  · rw [if_pos c11] at hf
    refine g_sub (L' := [(0, rv x0), (1, rv x1), (2, rv x2), (3, rv x3), (4, .int x4)]) [2, 3, 4, 5, 6] rfl ?_
    exact bL_law_2364 hL hk23 hf
  · rw [if_neg c11] at hf
    refine g_dload (j := 1) dL_law_2346 rfl ?_
    refine g_dload (j := 1) dL_law_2348 rfl ?_
    refine g_dcmp dL_law_2350 ?_
    refine g_if_eq (tgt := 2362) dL_law_2351 (by decide) (fun c12 => ?_) (fun c12 => ?_)
    · rw [if_pos c12] at hf
      refine g_iconst (v := 0) dL_law_2362 (by decide) ?_
      exact hf.elim
    · rw [if_neg c12] at hf
      refine g_dload (j := 0) dL_law_2354 rfl ?_
      refine g_dload (j := 0) dL_law_2356 rfl ?_
      refine g_dcmp dL_law_2358 ?_
      refine g_if_ne (tgt := 2364) dL_law_2359 (by decide) (fun c13 => ?_) (fun c13 => ?_)
      · rw [if_neg c13] at hf
        refine g_sub (L' := [(0, rv x0), (1, rv x1), (2, rv x2), (3, rv x3), (4, .int x4)]) [2, 3, 4, 5, 6] rfl ?_
        exact bL_law_2364 hL hk23 hf
      · rw [if_pos c13] at hf
        refine g_iconst (v := 0) dL_law_2362 (by decide) ?_
        exact hf.elim

set_option maxRecDepth 100000 in
set_option maxHeartbeats 4000000 in
theorem bL_law_2367 {X : Xt} {b c9 w9 : Nat} {tab : List ExceptionTableEntry} (hL : LH X b tab c9 w9) {k23 : St → Nat → Nat → Nat → Nat → Int32 → Prop} (hk23 : ∀ (σ : St) (x0 : Nat) (x1 : Nat) (x2 : Nat) (x3 : Nat) (x4 : Int32), k23 σ x0 x1 x2 x3 x4 → G MtL_law X σ 23 [(0, rv x0), (1, rv x1), (2, rv x2), (3, rv x3), (4, .int x4)] []) {σ : St} {x0 : Nat} {x1 : Nat} {x2 : Nat} {x3 : Nat} {x4 : Int32} (hf : pL_law_2367 c9 w9 k23 σ x0 x1 x2 x3 x4) : G MtL_law X σ 2367 [(0, rv x0), (1, rv x1), (2, rv x2), (3, rv x3), (4, .int x4)] [] := by
  unfold pL_law_2367 at hf
  refine g_aload_n (j := 1) dL_law_2367 rfl rfl ?_
  obtain ⟨_, h3, hf⟩ := hf
  obtain ⟨σ1, v2, eσ1, hf⟩ := hf
  refine g_callV_i dL_law_2368 (wX11_errors _ eσ1) (okX11_errors _ (by decide) (by decide)) (ckK_el h3) hc15 t_1095 t_1096 t_1097 rfl (Nat.le_trans (cat_le _) (Nat.le_of_ble_eq_true rfl)) rfl ?_
  refine g_aload_n (j := 2) dL_law_2371 rfl rfl ?_
  obtain ⟨_, h6, hf⟩ := hf
  obtain ⟨σ4, v5, eσ4, hf⟩ := hf
  refine g_callV_i dL_law_2372 (wX12_errors _ eσ4) (okX12_errors _ (by decide) (by decide)) (ckK_el h6) hc16 t_2772 t_2773 t_2774 rfl (Nat.le_trans (cat_le _) (Nat.le_of_ble_eq_true rfl)) rfl ?_
  refine g_icmp_eq (tgt := 2380) dL_law_2375 (by decide) (fun c7 => ?_) (fun c7 => ?_)
  · rw [if_pos c7] at hf
    exact bL_law_2380 hL hk23 hf
  · rw [if_neg c7] at hf
    refine g_iconst (v := 0) dL_law_2378 (by decide) ?_
    exact hf.elim

set_option maxRecDepth 100000 in
set_option maxHeartbeats 4000000 in
theorem bL_law_23 {X : Xt} {b c9 w9 : Nat} {tab : List ExceptionTableEntry} (hL : LH X b tab c9 w9) : ∀ (n : Nat) (σ : St) (x0 : Nat) (x1 : Nat) (x2 : Nat) (x3 : Nat) (x4 : Int32), pL_law_23 c9 w9 n σ x0 x1 x2 x3 x4 → G MtL_law X σ 23 [(0, rv x0), (1, rv x1), (2, rv x2), (3, rv x3), (4, .int x4)] [] := by
  intro n
  induction n with
  | zero => intro σ x0 x1 x2 x3 x4 hf; exact hf.elim
  | succ n ih =>
    intro σ x0 x1 x2 x3 x4 hf
    rw [pL_law_23] at hf
    refine g_iload (j := 4) dL_law_23 rfl ?_
    refine g_aload_n (j := 0) dL_law_25 rfl rfl ?_
    obtain ⟨v1, ev1, hf⟩ := hf
    refine g_alen dL_law_26 ev1 ?_
    refine g_bipush (v := 6) dL_law_27 (by decide) ?_
    refine g_isub dL_law_29 ?_
    refine g_icmp_gt (tgt := 2386) dL_law_30 (by decide) (fun c2 => ?_) (fun c2 => ?_)
    · rw [if_pos c2] at hf
      refine g_iconst (v := 1) dL_law_2386 (by decide) ?_
      exact g_iretL dL_law_2387 hL hf
    · rw [if_neg c2] at hf
      refine g_aload_n (j := 0) dL_law_33 rfl rfl ?_
      refine g_iload (j := 4) dL_law_34 rfl ?_
      obtain ⟨v3, ev3, hf⟩ := hf
      refine g_iald dL_law_36 ev3 ?_
      refine g_bipush (v := 63) dL_law_37 (by decide) ?_
      refine g_iand dL_law_39 ?_
      obtain ⟨v4, ev4, hf⟩ := nm_elP hf
      refine g_topI ev4 ?_
      by_cases c5 : v4 = 0
      · rw [if_pos c5] at hf
        refine g_tsIn (tgt := 248) dL_law_40 c5 (by decide) (by decide) rfl (by decide) ?_
        exact bL_law_248 hL (fun σ x0 x1 x2 x3 x4 hf => ih σ x0 x1 x2 x3 x4 hf) hf
      · rw [if_neg c5] at hf
        by_cases c6 : v4 = 1
        · rw [if_pos c6] at hf
          refine g_tsIn (tgt := 352) dL_law_40 c6 (by decide) (by decide) rfl (by decide) ?_
          exact bL_law_352 hL (fun σ x0 x1 x2 x3 x4 hf => ih σ x0 x1 x2 x3 x4 hf) hf
        · rw [if_neg c6] at hf
          by_cases c7 : v4 = 2
          · rw [if_pos c7] at hf
            refine g_tsIn (tgt := 365) dL_law_40 c7 (by decide) (by decide) rfl (by decide) ?_
            exact bL_law_365 hL (fun σ x0 x1 x2 x3 x4 hf => ih σ x0 x1 x2 x3 x4 hf) hf
          · rw [if_neg c7] at hf
            by_cases c8 : v4 = 3
            · rw [if_pos c8] at hf
              refine g_tsIn (tgt := 409) dL_law_40 c8 (by decide) (by decide) rfl (by decide) ?_
              exact bL_law_409 hL (fun σ x0 x1 x2 x3 x4 hf => ih σ x0 x1 x2 x3 x4 hf) hf
            · rw [if_neg c8] at hf
              by_cases c9 : v4 = 4
              · rw [if_pos c9] at hf
                refine g_tsIn (tgt := 422) dL_law_40 c9 (by decide) (by decide) rfl (by decide) ?_
                exact bL_law_422 hL (fun σ x0 x1 x2 x3 x4 hf => ih σ x0 x1 x2 x3 x4 hf) hf
              · rw [if_neg c9] at hf
                by_cases c10 : v4 = 5
                · rw [if_pos c10] at hf
                  refine g_tsIn (tgt := 478) dL_law_40 c10 (by decide) (by decide) rfl (by decide) ?_
                  exact bL_law_478 hL (fun σ x0 x1 x2 x3 x4 hf => ih σ x0 x1 x2 x3 x4 hf) hf
                · rw [if_neg c10] at hf
                  by_cases c11 : v4 = 6
                  · rw [if_pos c11] at hf
                    refine g_tsIn (tgt := 491) dL_law_40 c11 (by decide) (by decide) rfl (by decide) ?_
                    exact bL_law_491 hL (fun σ x0 x1 x2 x3 x4 hf => ih σ x0 x1 x2 x3 x4 hf) hf
                  · rw [if_neg c11] at hf
                    by_cases c12 : v4 = 7
                    · rw [if_pos c12] at hf
                      refine g_tsIn (tgt := 504) dL_law_40 c12 (by decide) (by decide) rfl (by decide) ?_
                      exact bL_law_504 hL (fun σ x0 x1 x2 x3 x4 hf => ih σ x0 x1 x2 x3 x4 hf) hf
                    · rw [if_neg c12] at hf
                      by_cases c13 : v4 = 8
                      · rw [if_pos c13] at hf
                        refine g_tsIn (tgt := 560) dL_law_40 c13 (by decide) (by decide) rfl (by decide) ?_
                        exact bL_law_560 hL (fun σ x0 x1 x2 x3 x4 hf => ih σ x0 x1 x2 x3 x4 hf) hf
                      · rw [if_neg c13] at hf
                        by_cases c14 : v4 = 9
                        · rw [if_pos c14] at hf
                          refine g_tsIn (tgt := 573) dL_law_40 c14 (by decide) (by decide) rfl (by decide) ?_
                          exact bL_law_573 hL (fun σ x0 x1 x2 x3 x4 hf => ih σ x0 x1 x2 x3 x4 hf) hf
                        · rw [if_neg c14] at hf
                          by_cases c15 : v4 = 10
                          · rw [if_pos c15] at hf
                            refine g_tsIn (tgt := 614) dL_law_40 c15 (by decide) (by decide) rfl (by decide) ?_
                            exact bL_law_614 hL (fun σ x0 x1 x2 x3 x4 hf => ih σ x0 x1 x2 x3 x4 hf) hf
                          · rw [if_neg c15] at hf
                            by_cases c16 : v4 = 11
                            · rw [if_pos c16] at hf
                              refine g_tsIn (tgt := 698) dL_law_40 c16 (by decide) (by decide) rfl (by decide) ?_
                              exact bL_law_698 hL (fun σ x0 x1 x2 x3 x4 hf => ih σ x0 x1 x2 x3 x4 hf) hf
                            · rw [if_neg c16] at hf
                              by_cases c17 : v4 = 12
                              · rw [if_pos c17] at hf
                                refine g_tsIn (tgt := 739) dL_law_40 c17 (by decide) (by decide) rfl (by decide) ?_
                                exact bL_law_739 hL (fun σ x0 x1 x2 x3 x4 hf => ih σ x0 x1 x2 x3 x4 hf) hf
                              · rw [if_neg c17] at hf
                                by_cases c18 : v4 = 13
                                · rw [if_pos c18] at hf
                                  refine g_tsIn (tgt := 795) dL_law_40 c18 (by decide) (by decide) rfl (by decide) ?_
                                  exact bL_law_795 hL (fun σ x0 x1 x2 x3 x4 hf => ih σ x0 x1 x2 x3 x4 hf) hf
                                · rw [if_neg c18] at hf
                                  by_cases c19 : v4 = 14
                                  · rw [if_pos c19] at hf
                                    refine g_tsIn (tgt := 851) dL_law_40 c19 (by decide) (by decide) rfl (by decide) ?_
                                    exact bL_law_851 hL (fun σ x0 x1 x2 x3 x4 hf => ih σ x0 x1 x2 x3 x4 hf) hf
                                  · rw [if_neg c19] at hf
                                    by_cases c20 : v4 = 15
                                    · rw [if_pos c20] at hf
                                      refine g_tsIn (tgt := 907) dL_law_40 c20 (by decide) (by decide) rfl (by decide) ?_
                                      exact bL_law_907 hL (fun σ x0 x1 x2 x3 x4 hf => ih σ x0 x1 x2 x3 x4 hf) hf
                                    · rw [if_neg c20] at hf
                                      by_cases c21 : v4 = 16
                                      · rw [if_pos c21] at hf
                                        refine g_tsIn (tgt := 975) dL_law_40 c21 (by decide) (by decide) rfl (by decide) ?_
                                        exact bL_law_975 hL (fun σ x0 x1 x2 x3 x4 hf => ih σ x0 x1 x2 x3 x4 hf) hf
                                      · rw [if_neg c21] at hf
                                        by_cases c22 : v4 = 17
                                        · rw [if_pos c22] at hf
                                          refine g_tsIn (tgt := 988) dL_law_40 c22 (by decide) (by decide) rfl (by decide) ?_
                                          exact bL_law_988 hL (fun σ x0 x1 x2 x3 x4 hf => ih σ x0 x1 x2 x3 x4 hf) hf
                                        · rw [if_neg c22] at hf
                                          by_cases c23 : v4 = 18
                                          · rw [if_pos c23] at hf
                                            refine g_tsIn (tgt := 1044) dL_law_40 c23 (by decide) (by decide) rfl (by decide) ?_
                                            exact bL_law_1044 hL (fun σ x0 x1 x2 x3 x4 hf => ih σ x0 x1 x2 x3 x4 hf) hf
                                          · rw [if_neg c23] at hf
                                            by_cases c24 : v4 = 19
                                            · rw [if_pos c24] at hf
                                              refine g_tsIn (tgt := 1100) dL_law_40 c24 (by decide) (by decide) rfl (by decide) ?_
                                              exact bL_law_1100 hL (fun σ x0 x1 x2 x3 x4 hf => ih σ x0 x1 x2 x3 x4 hf) hf
                                            · rw [if_neg c24] at hf
                                              by_cases c25 : v4 = 20
                                              · rw [if_pos c25] at hf
                                                refine g_tsIn (tgt := 1113) dL_law_40 c25 (by decide) (by decide) rfl (by decide) ?_
                                                exact bL_law_1113 hL (fun σ x0 x1 x2 x3 x4 hf => ih σ x0 x1 x2 x3 x4 hf) hf
                                              · rw [if_neg c25] at hf
                                                by_cases c26 : v4 = 21
                                                · rw [if_pos c26] at hf
                                                  refine g_tsIn (tgt := 1169) dL_law_40 c26 (by decide) (by decide) rfl (by decide) ?_
                                                  exact bL_law_1169 hL (fun σ x0 x1 x2 x3 x4 hf => ih σ x0 x1 x2 x3 x4 hf) hf
                                                · rw [if_neg c26] at hf
                                                  by_cases c27 : v4 = 22
                                                  · rw [if_pos c27] at hf
                                                    refine g_tsIn (tgt := 1262) dL_law_40 c27 (by decide) (by decide) rfl (by decide) ?_
                                                    exact bL_law_1262 hL (fun σ x0 x1 x2 x3 x4 hf => ih σ x0 x1 x2 x3 x4 hf) hf
                                                  · rw [if_neg c27] at hf
                                                    by_cases c28 : v4 = 23
                                                    · rw [if_pos c28] at hf
                                                      refine g_tsIn (tgt := 1315) dL_law_40 c28 (by decide) (by decide) rfl (by decide) ?_
                                                      exact bL_law_1315 hL (fun σ x0 x1 x2 x3 x4 hf => ih σ x0 x1 x2 x3 x4 hf) hf
                                                    · rw [if_neg c28] at hf
                                                      by_cases c29 : v4 = 24
                                                      · rw [if_pos c29] at hf
                                                        refine g_tsIn (tgt := 1399) dL_law_40 c29 (by decide) (by decide) rfl (by decide) ?_
                                                        exact bL_law_1399 hL (fun σ x0 x1 x2 x3 x4 hf => ih σ x0 x1 x2 x3 x4 hf) hf
                                                      · rw [if_neg c29] at hf
                                                        by_cases c30 : v4 = 25
                                                        · rw [if_pos c30] at hf
                                                          refine g_tsIn (tgt := 1412) dL_law_40 c30 (by decide) (by decide) rfl (by decide) ?_
                                                          exact bL_law_1412 hL (fun σ x0 x1 x2 x3 x4 hf => ih σ x0 x1 x2 x3 x4 hf) hf
                                                        · rw [if_neg c30] at hf
                                                          by_cases c31 : v4 = 26
                                                          · rw [if_pos c31] at hf
                                                            refine g_tsIn (tgt := 1468) dL_law_40 c31 (by decide) (by decide) rfl (by decide) ?_
                                                            exact bL_law_1468 hL (fun σ x0 x1 x2 x3 x4 hf => ih σ x0 x1 x2 x3 x4 hf) hf
                                                          · rw [if_neg c31] at hf
                                                            by_cases c32 : v4 = 27
                                                            · rw [if_pos c32] at hf
                                                              refine g_tsIn (tgt := 1524) dL_law_40 c32 (by decide) (by decide) rfl (by decide) ?_
                                                              exact bL_law_1524 hL (fun σ x0 x1 x2 x3 x4 hf => ih σ x0 x1 x2 x3 x4 hf) hf
                                                            · rw [if_neg c32] at hf
                                                              by_cases c33 : v4 = 28
                                                              · rw [if_pos c33] at hf
                                                                refine g_tsIn (tgt := 1537) dL_law_40 c33 (by decide) (by decide) rfl (by decide) ?_
                                                                exact bL_law_1537 hL (fun σ x0 x1 x2 x3 x4 hf => ih σ x0 x1 x2 x3 x4 hf) hf
                                                              · rw [if_neg c33] at hf
                                                                by_cases c34 : v4 = 29
                                                                · rw [if_pos c34] at hf
                                                                  refine g_tsIn (tgt := 1550) dL_law_40 c34 (by decide) (by decide) rfl (by decide) ?_
                                                                  exact bL_law_1550 hL (fun σ x0 x1 x2 x3 x4 hf => ih σ x0 x1 x2 x3 x4 hf) hf
                                                                · rw [if_neg c34] at hf
                                                                  by_cases c35 : v4 = 30
                                                                  · rw [if_pos c35] at hf
                                                                    refine g_tsIn (tgt := 1563) dL_law_40 c35 (by decide) (by decide) rfl (by decide) ?_
                                                                    exact bL_law_1563 hL (fun σ x0 x1 x2 x3 x4 hf => ih σ x0 x1 x2 x3 x4 hf) hf
                                                                  · rw [if_neg c35] at hf
                                                                    by_cases c36 : v4 = 31
                                                                    · rw [if_pos c36] at hf
                                                                      refine g_tsIn (tgt := 1619) dL_law_40 c36 (by decide) (by decide) rfl (by decide) ?_
                                                                      exact bL_law_1619 hL (fun σ x0 x1 x2 x3 x4 hf => ih σ x0 x1 x2 x3 x4 hf) hf
                                                                    · rw [if_neg c36] at hf
                                                                      by_cases c37 : v4 = 32
                                                                      · rw [if_pos c37] at hf
                                                                        refine g_tsIn (tgt := 1632) dL_law_40 c37 (by decide) (by decide) rfl (by decide) ?_
                                                                        exact bL_law_1632 hL (fun σ x0 x1 x2 x3 x4 hf => ih σ x0 x1 x2 x3 x4 hf) hf
                                                                      · rw [if_neg c37] at hf
                                                                        by_cases c38 : v4 = 33
                                                                        · rw [if_pos c38] at hf
                                                                          refine g_tsIn (tgt := 1688) dL_law_40 c38 (by decide) (by decide) rfl (by decide) ?_
                                                                          exact bL_law_1688 hL (fun σ x0 x1 x2 x3 x4 hf => ih σ x0 x1 x2 x3 x4 hf) hf
                                                                        · rw [if_neg c38] at hf
                                                                          by_cases c39 : v4 = 34
                                                                          · rw [if_pos c39] at hf
                                                                            refine g_tsIn (tgt := 1744) dL_law_40 c39 (by decide) (by decide) rfl (by decide) ?_
                                                                            exact bL_law_1744 hL (fun σ x0 x1 x2 x3 x4 hf => ih σ x0 x1 x2 x3 x4 hf) hf
                                                                          · rw [if_neg c39] at hf
                                                                            by_cases c40 : v4 = 35
                                                                            · rw [if_pos c40] at hf
                                                                              refine g_tsIn (tgt := 1757) dL_law_40 c40 (by decide) (by decide) rfl (by decide) ?_
                                                                              exact bL_law_1757 hL (fun σ x0 x1 x2 x3 x4 hf => ih σ x0 x1 x2 x3 x4 hf) hf
                                                                            · rw [if_neg c40] at hf
                                                                              by_cases c41 : v4 = 36
                                                                              · rw [if_pos c41] at hf
                                                                                refine g_tsIn (tgt := 1813) dL_law_40 c41 (by decide) (by decide) rfl (by decide) ?_
                                                                                exact bL_law_1813 hL (fun σ x0 x1 x2 x3 x4 hf => ih σ x0 x1 x2 x3 x4 hf) hf
                                                                              · rw [if_neg c41] at hf
                                                                                by_cases c42 : v4 = 37
                                                                                · rw [if_pos c42] at hf
                                                                                  refine g_tsIn (tgt := 1869) dL_law_40 c42 (by decide) (by decide) rfl (by decide) ?_
                                                                                  exact bL_law_1869 hL (fun σ x0 x1 x2 x3 x4 hf => ih σ x0 x1 x2 x3 x4 hf) hf
                                                                                · rw [if_neg c42] at hf
                                                                                  by_cases c43 : v4 = 38
                                                                                  · rw [if_pos c43] at hf
                                                                                    refine g_tsIn (tgt := 1925) dL_law_40 c43 (by decide) (by decide) rfl (by decide) ?_
                                                                                    exact bL_law_1925 hL (fun σ x0 x1 x2 x3 x4 hf => ih σ x0 x1 x2 x3 x4 hf) hf
                                                                                  · rw [if_neg c43] at hf
                                                                                    by_cases c44 : v4 = 39
                                                                                    · rw [if_pos c44] at hf
                                                                                      refine g_tsIn (tgt := 1981) dL_law_40 c44 (by decide) (by decide) rfl (by decide) ?_
                                                                                      exact bL_law_1981 hL (fun σ x0 x1 x2 x3 x4 hf => ih σ x0 x1 x2 x3 x4 hf) hf
                                                                                    · rw [if_neg c44] at hf
                                                                                      by_cases c45 : v4 = 40
                                                                                      · rw [if_pos c45] at hf
                                                                                        refine g_tsIn (tgt := 2065) dL_law_40 c45 (by decide) (by decide) rfl (by decide) ?_
                                                                                        exact bL_law_2065 hL (fun σ x0 x1 x2 x3 x4 hf => ih σ x0 x1 x2 x3 x4 hf) hf
                                                                                      · rw [if_neg c45] at hf
                                                                                        by_cases c46 : v4 = 41
                                                                                        · rw [if_pos c46] at hf
                                                                                          refine g_tsIn (tgt := 2133) dL_law_40 c46 (by decide) (by decide) rfl (by decide) ?_
                                                                                          exact bL_law_2133 hL (fun σ x0 x1 x2 x3 x4 hf => ih σ x0 x1 x2 x3 x4 hf) hf
                                                                                        · rw [if_neg c46] at hf
                                                                                          by_cases c47 : v4 = 42
                                                                                          · rw [if_pos c47] at hf
                                                                                            refine g_tsIn (tgt := 2189) dL_law_40 c47 (by decide) (by decide) rfl (by decide) ?_
                                                                                            exact bL_law_2189 hL (fun σ x0 x1 x2 x3 x4 hf => ih σ x0 x1 x2 x3 x4 hf) hf
                                                                                          · rw [if_neg c47] at hf
                                                                                            by_cases c48 : v4 = 43
                                                                                            · rw [if_pos c48] at hf
                                                                                              refine g_tsIn (tgt := 2257) dL_law_40 c48 (by decide) (by decide) rfl (by decide) ?_
                                                                                              exact bL_law_2257 hL (fun σ x0 x1 x2 x3 x4 hf => ih σ x0 x1 x2 x3 x4 hf) hf
                                                                                            · rw [if_neg c48] at hf
                                                                                              by_cases c49 : v4 = 44
                                                                                              · rw [if_pos c49] at hf
                                                                                                refine g_tsIn (tgt := 2270) dL_law_40 c49 (by decide) (by decide) rfl (by decide) ?_
                                                                                                exact bL_law_2270 hL (fun σ x0 x1 x2 x3 x4 hf => ih σ x0 x1 x2 x3 x4 hf) hf
                                                                                              · rw [if_neg c49] at hf
                                                                                                by_cases c50 : v4 = 45
                                                                                                · rw [if_pos c50] at hf
                                                                                                  refine g_tsIn (tgt := 2283) dL_law_40 c50 (by decide) (by decide) rfl (by decide) ?_
                                                                                                  exact bL_law_2283 hL (fun σ x0 x1 x2 x3 x4 hf => ih σ x0 x1 x2 x3 x4 hf) hf
                                                                                                · rw [if_neg c50] at hf
                                                                                                  by_cases c51 : v4 = 46
                                                                                                  · rw [if_pos c51] at hf
                                                                                                    refine g_tsIn (tgt := 2324) dL_law_40 c51 (by decide) (by decide) rfl (by decide) ?_
                                                                                                    exact bL_law_2324 hL (fun σ x0 x1 x2 x3 x4 hf => ih σ x0 x1 x2 x3 x4 hf) hf
                                                                                                  · rw [if_neg c51] at hf
                                                                                                    by_cases c52 : v4 = 47
                                                                                                    · rw [if_pos c52] at hf
                                                                                                      refine g_tsIn (tgt := 2367) dL_law_40 c52 (by decide) (by decide) rfl (by decide) ?_
                                                                                                      exact bL_law_2367 hL (fun σ x0 x1 x2 x3 x4 hf => ih σ x0 x1 x2 x3 x4 hf) hf
                                                                                                    · rw [if_neg c52] at hf
                                                                                                      have qc5 := lv_neT c5 (k := 0) (a := 0) rfl
                                                                                                      have qc6 := lv_neT c6 (k := 1) (a := 1) rfl
                                                                                                      have qc7 := lv_neT c7 (k := 2) (a := 2) rfl
                                                                                                      have qc8 := lv_neT c8 (k := 3) (a := 3) rfl
                                                                                                      have qc9 := lv_neT c9 (k := 4) (a := 4) rfl
                                                                                                      have qc10 := lv_neT c10 (k := 5) (a := 5) rfl
                                                                                                      have qc11 := lv_neT c11 (k := 6) (a := 6) rfl
                                                                                                      have qc12 := lv_neT c12 (k := 7) (a := 7) rfl
                                                                                                      have qc13 := lv_neT c13 (k := 8) (a := 8) rfl
                                                                                                      have qc14 := lv_neT c14 (k := 9) (a := 9) rfl
                                                                                                      have qc15 := lv_neT c15 (k := 10) (a := 10) rfl
                                                                                                      have qc16 := lv_neT c16 (k := 11) (a := 11) rfl
                                                                                                      have qc17 := lv_neT c17 (k := 12) (a := 12) rfl
                                                                                                      have qc18 := lv_neT c18 (k := 13) (a := 13) rfl
                                                                                                      have qc19 := lv_neT c19 (k := 14) (a := 14) rfl
                                                                                                      have qc20 := lv_neT c20 (k := 15) (a := 15) rfl
                                                                                                      have qc21 := lv_neT c21 (k := 16) (a := 16) rfl
                                                                                                      have qc22 := lv_neT c22 (k := 17) (a := 17) rfl
                                                                                                      have qc23 := lv_neT c23 (k := 18) (a := 18) rfl
                                                                                                      have qc24 := lv_neT c24 (k := 19) (a := 19) rfl
                                                                                                      have qc25 := lv_neT c25 (k := 20) (a := 20) rfl
                                                                                                      have qc26 := lv_neT c26 (k := 21) (a := 21) rfl
                                                                                                      have qc27 := lv_neT c27 (k := 22) (a := 22) rfl
                                                                                                      have qc28 := lv_neT c28 (k := 23) (a := 23) rfl
                                                                                                      have qc29 := lv_neT c29 (k := 24) (a := 24) rfl
                                                                                                      have qc30 := lv_neT c30 (k := 25) (a := 25) rfl
                                                                                                      have qc31 := lv_neT c31 (k := 26) (a := 26) rfl
                                                                                                      have qc32 := lv_neT c32 (k := 27) (a := 27) rfl
                                                                                                      have qc33 := lv_neT c33 (k := 28) (a := 28) rfl
                                                                                                      have qc34 := lv_neT c34 (k := 29) (a := 29) rfl
                                                                                                      have qc35 := lv_neT c35 (k := 30) (a := 30) rfl
                                                                                                      have qc36 := lv_neT c36 (k := 31) (a := 31) rfl
                                                                                                      have qc37 := lv_neT c37 (k := 32) (a := 32) rfl
                                                                                                      have qc38 := lv_neT c38 (k := 33) (a := 33) rfl
                                                                                                      have qc39 := lv_neT c39 (k := 34) (a := 34) rfl
                                                                                                      have qc40 := lv_neT c40 (k := 35) (a := 35) rfl
                                                                                                      have qc41 := lv_neT c41 (k := 36) (a := 36) rfl
                                                                                                      have qc42 := lv_neT c42 (k := 37) (a := 37) rfl
                                                                                                      have qc43 := lv_neT c43 (k := 38) (a := 38) rfl
                                                                                                      have qc44 := lv_neT c44 (k := 39) (a := 39) rfl
                                                                                                      have qc45 := lv_neT c45 (k := 40) (a := 40) rfl
                                                                                                      have qc46 := lv_neT c46 (k := 41) (a := 41) rfl
                                                                                                      have qc47 := lv_neT c47 (k := 42) (a := 42) rfl
                                                                                                      have qc48 := lv_neT c48 (k := 43) (a := 43) rfl
                                                                                                      have qc49 := lv_neT c49 (k := 44) (a := 44) rfl
                                                                                                      have qc50 := lv_neT c50 (k := 45) (a := 45) rfl
                                                                                                      have qc51 := lv_neT c51 (k := 46) (a := 46) rfl
                                                                                                      have qc52 := lv_neT c52 (k := 47) (a := 47) rfl
                                                                                                      refine g_tsOut (tgt := 2380) dL_law_40 (by omega) (by decide) ?_
                                                                                                      exact bL_law_2380 hL (fun σ x0 x1 x2 x3 x4 hf => ih σ x0 x1 x2 x3 x4 hf) hf

set_option maxRecDepth 100000 in
set_option maxHeartbeats 4000000 in
theorem bL_law {X : Xt} {b c9 w9 : Nat} {tab : List ExceptionTableEntry} (hL : LH X b tab c9 w9) {σ : St} {x0 : Nat} (hf : pL_law c9 w9 σ x0) : G MtL_law X σ 0 [(0, rv x0)] [] := by
  unfold pL_law at hf
  obtain ⟨σ1, eσ1, hf⟩ := nm_elP hf
  obtain ⟨a2, ea2, hf⟩ := nm_elP hf
  refine g_new9 dL_law_0 hc15 hin15 hty15 hdf15 t_36 t_37 t_1 eσ1 ea2 ?_
  refine g_dup dL_law_3 (rv_cat _) ?_
  obtain ⟨_, h5, hf⟩ := hf
  obtain ⟨σ3, v4, eσ3, hf⟩ := hf
  refine g_callI dL_law_4 (wX11_init _ eσ3) (okX11_init _ (by decide) (by decide)) rfl (by rw [ckK_el h5]; decide) rfl t_38 t_39 rfl (Nat.le_trans (cat_le _) (Nat.le_of_ble_eq_true rfl)) rfl ?_
  refine g_astore_n (i := 1) (L' := [(1, rv a2), (0, rv x0)]) dL_law_7 rfl (Nat.le_of_ble_eq_true rfl) (by simp [rv_cat]) ?_
  obtain ⟨σ6, eσ6, hf⟩ := nm_elP hf
  obtain ⟨a7, ea7, hf⟩ := nm_elP hf
  refine g_new9 dL_law_8 hc16 hin16 hty16 hdf16 t_1896 t_1897 t_16 eσ6 ea7 ?_
  refine g_dup dL_law_11 (rv_cat _) ?_
  obtain ⟨_, h10, hf⟩ := hf
  obtain ⟨σ8, v9, eσ8, hf⟩ := hf
  refine g_callI dL_law_12 (wX12_init _ eσ8) (okX12_init _ (by decide) (by decide)) rfl (by rw [ckK_el h10]; decide) rfl t_1898 t_1899 rfl (Nat.le_trans (cat_le _) (Nat.le_of_ble_eq_true rfl)) rfl ?_
  refine g_astore_n (i := 2) (L' := [(2, rv a7), (1, rv a2), (0, rv x0)]) dL_law_15 rfl (Nat.le_of_ble_eq_true rfl) (by simp [rv_cat]) ?_
  refine g_iconst (v := 1) dL_law_16 (by decide) ?_
  obtain ⟨σ11, eσ11, hf⟩ := hf
  obtain ⟨a12, ea12, hf⟩ := nm_elP hf
  refine g_newa9 dL_law_17 eσ11 (by decide) rfl (by decide) rfl t_2776 ea12 ?_
  refine g_astore_n (i := 3) (L' := [(3, rv a12), (2, rv a7), (1, rv a2), (0, rv x0)]) dL_law_19 rfl (Nat.le_of_ble_eq_true rfl) (by simp [rv_cat]) ?_
  refine g_iconst (v := 0) dL_law_20 (by decide) ?_
  refine g_istore (i := 4) (L' := [(4, .int 0), (3, rv a12), (2, rv a7), (1, rv a2), (0, rv x0)]) dL_law_21 (Nat.le_of_ble_eq_true rfl) (by simp [rv_cat]) ?_
  refine g_sub (L' := [(0, rv x0), (1, rv a2), (2, rv a7), (3, rv a12), (4, .int 0)]) [4, 3, 2, 1, 0] rfl ?_
  exact bL_law_23 hL FU _ _ _ _ _ _ hf

