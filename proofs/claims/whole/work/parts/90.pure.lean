/-- the pure half: the law answers 1 -/
theorem pu_law {L : Nat} {xs : Nat → Int32} (hL : L ≤ 2048) : ∃ fu, f_Law_lawp fu L xs 1200 32 1200 128 128 40 40 40 40 20 1200 40 520 520 520 520 520 1 0 0 0 0 0 (fun _ => 0) 0 0 (fun _ => 0) 0 0 0 0 (fun _ => 0) 0 0 0 0 (fun _ => 0) 0 (fun _ => 0) 0 0 0 0 0 (fun _ => 0) 0 (fun _ => 0) 0 (fun _ => 0) 0 (fun _ => 0) 0 0 (fun _ => 0) 0 0 0 0 0 0 0 0 0 0 0 0 0 0 0 0 0 (fun _ => 0) (fun _ => 0) (fun _ => 0) (fun _ => 0) (fun _ => 0) (fun _ => 0) (fun _ => 0) (fun _ => 0) = some 1 := by
  sorry
