section CA2
/-- children stand before their parents in the order -/
def kidOk (k : Nat) (od : Nat → Nat) (i c : Nat) : Bool := decide (c < k) || (List.range i).any (fun j => decide (od j = c))
def wfz (k x : Nat) : Bool := (List.range (k - 2)).all (fun i => kidOk k (gz k x).2 i ((gz k x).1.1 ((gz k x).2 i)) && kidOk k (gz k x).2 i ((gz k x).1.2.1 ((gz k x).2 i)))
theorem wfz_3 : (List.range 1).all (wfz 3) = true := by decide +kernel
theorem wfz_4 : (List.range 3).all (wfz 4) = true := by decide +kernel
theorem wfz_5 : (List.range 15).all (wfz 5) = true := by decide +kernel
end CA2
