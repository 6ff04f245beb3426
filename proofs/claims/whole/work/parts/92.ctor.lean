/-! THE CONSTRUCTORS, run by the kernel -/
def h00 : AH := (fun a _ => if a = 48 then .int (nI 0) else .null, fun _ => 0, 64, 0, 0)
def mkN (h : AH) (c : Nat) : AH := ax_mk h c (ax_nf c) (fun j => ax_df (ax_fc c j))
def zI (h : AH) (a n : Nat) : Bool := (List.range n).all fun i => decide (hI h a i = nI 0)
def vI (h : AH) (a j : Nat) (v : Int32) : Bool := decide (hI h a j = v)
def nR (h : AH) (a n : Nat) : Bool := (List.range n).all fun i => match h.1 a i with
  | .null => true
  | _ => false
def iR (h : AH) (a j q : Nat) : Bool := match h.1 a j with
  | .ref k => decide (k = q)
  | _ => false
def cfOk (h : AH) : Bool := (List.range ax_cfL.length).all fun b => (List.range (ax_cfL.getD b []).length).all fun j => match (ax_cfL.getD b []).getD j none with
  | some q => iR h (64 + b) j q
  | none => true
def chk (h : AH) : Bool := decide (h.2.2.1 = 181) && decide (h.2.2.2.1 ≤ 200000) && cfOk h && vI h 153 0 (nI 3) && vI h 153 2 (nI 0) && vI h 66 0 (nI 3) && vI h 66 3 (nI 0) && vI h 70 0 (nI 1) && zI h 154 5 && zI h 67 5 && vI h 153 6 (nI 0) && vI h 87 2 (nI 0) && vI h 153 8 (nI 0) && vI h 65 6 (nI 0) && nR h 90 8 && nR h 91 8 && decide (hL h 153 10 = lN 1) && decide (hL h 65 7 = lN 1) && vI h 153 25 (nI 0) && vI h 136 1 (nI 0) && vI h 171 0 (-nI 9) && vI h 171 1 (-nI 9) && zI h 172 48 && vI h 139 0 (-nI 1) && vI h 139 1 (-nI 1) && nR h 138 12 && (List.range 4).all (fun s => vI h 173 s (-nI 1) && vI h 174 s (nI 0) && vI h (141 + 2 * s) 0 (-nI 1) && vI h (141 + 2 * s) 1 (nI 0) && zI h (142 + 2 * s) 40) && zI h 175 160 && zI h 176 4 && zI h 149 4 && nR h 150 4 && nR h 151 4 && vI h 153 40 (nI 0) && vI h 64 2 (nI 0) && vI h 95 0 (nI 3) && vI h 95 3 (nI 0) && vI h 99 0 (nI 1) && iR h 129 0 130 && iR h 129 1 131
def run1 : Option (Option Value × AH) := ax_exG false 4000 12 0 0 (ax_ent [.ref 64] (ax_L 0)) [] (mkN h00 10)
def run2 (h : AH) : Option (Option Value × AH) := ax_exG false 4000 12 153 0 (ax_ent [.ref 153] (ax_L 153)) [] (mkN h 11)
theorem ctor_ok : (match run1 with
  | some (none, h) => decide (h.2.2.1 = 153) && (match run2 h with
    | some (none, h') => chk h'
    | _ => false)
  | _ => false) = true := by decide +kernel
