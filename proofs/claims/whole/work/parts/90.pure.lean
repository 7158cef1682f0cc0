/-- the pure half: the law answers 1 -/
theorem pu_law {L : Nat} {xs : Nat → Int32} (hL : L ≤ 2048) : ∃ fu, f_Law_lawp fu L xs 1200 32 1200 128 128 40 40 40 40 20 1200 40 520 520 520 520 520 1 0 0 0 0 0 (fun _ => 0) 0 0 (fun _ => 0) 0 0 0 0 (fun _ => 0) 0 0 0 0 (fun _ => 0) 0 (fun _ => 0) 0 0 0 0 0 (fun _ => 0) 0 (fun _ => 0) 0 (fun _ => 0) 0 (fun _ => 0) 0 0 (fun _ => 0) 0 0 0 0 0 0 0 0 0 0 0 0 0 0 0 0 0 (fun _ => 0) (fun _ => 0) (fun _ => 0) (fun _ => 0) (fun _ => 0) (fun _ => 0) (fun _ => 0) (fun _ => 0) = some 1 := by
  refine ⟨10000, ?_⟩
  unfold f_Law_lawp
  refine ok_e ?_
  have jj : JJ 0 0 0 0 0 (fun _ => 0) 0 0 (fun _ => 0) 0 0 0 0 0 0 (fun _ => 0) (fun _ => 0) := ⟨rfl, rfl, rfl, rfl, ⟨0, rfl, rfl, JT_0 _ _⟩, 0, 0, rfl, rfl, rfl, rfl, Nat.le_refl 0, by decide, fun i hi => by omega⟩
  exact law_23 (fu := 10000) (xs := xs) hL (by decide) 600 0 (Nat.zero_le _) (by omega) jj
