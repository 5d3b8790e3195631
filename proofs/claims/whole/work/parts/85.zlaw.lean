theorem pm_all2 {α : Type} (p : α → Bool) (l : List α) (n : Nat) (h1 : (l.take n).all p = true) (h2 : (l.drop n).all p = true) : l.all p = true := by
  rw [← List.take_append_drop n l, List.all_append, h1, h2]
  rfl
def kD (a n : Nat) : Bool := ((iL_law.1.drop a).take n).all (fun x => decide (decode cL_law x.1 = .ok x.2))
theorem kD_0 : kD 0 54 = true := by decide +kernel
theorem kD_54 : kD 54 54 = true := by decide +kernel
theorem kD_108 : kD 108 54 = true := by decide +kernel
theorem kD_162 : kD 162 54 = true := by decide +kernel
theorem kD_216 : kD 216 54 = true := by decide +kernel
theorem kD_270 : kD 270 54 = true := by decide +kernel
theorem kD_324 : kD 324 54 = true := by decide +kernel
theorem kD_378 : kD 378 54 = true := by decide +kernel
theorem kD_432 : kD 432 54 = true := by decide +kernel
theorem kD_486 : kD 486 54 = true := by decide +kernel
theorem kD_540 : kD 540 54 = true := by decide +kernel
theorem kD_594 : kD 594 54 = true := by decide +kernel
theorem kD_step {a n : Nat} (h1 : kD a n = true) (h2 : (iL_law.1.drop (a + n)).all (fun x => decide (decode cL_law x.1 = .ok x.2)) = true) : (iL_law.1.drop a).all (fun x => decide (decode cL_law x.1 = .ok x.2)) = true := pm_all2 _ _ n h1 (by rw [List.drop_drop]; exact h2)
theorem kD_end : (iL_law.1.drop 648).all (fun x => decide (decode cL_law x.1 = .ok x.2)) = true := by decide +kernel
theorem kL_dec : (iL_law.1.drop 0).all (fun x => decide (decode cL_law x.1 = .ok x.2)) = true := kD_step kD_0 (kD_step kD_54 (kD_step kD_108 (kD_step kD_162 (kD_step kD_216 (kD_step kD_270 (kD_step kD_324 (kD_step kD_378 (kD_step kD_432 (kD_step kD_486 (kD_step kD_540 (kD_step kD_594 kD_end)))))))))))
theorem kL_law : pm_Ib mL_law iL_law = true := by
  unfold pm_Ib
  rw [Bool.and_eq_true]
  exact ⟨kL_dec, by decide +kernel⟩
