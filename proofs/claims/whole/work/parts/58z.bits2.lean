section
-- sets within sets, as bits
theorem bt_xor : ∀ L, L < 256 → og_bit og_oxor ((L : Nat) : Int) (-1) = -1 - ((L : Nat) : Int) := by decide +kernel
theorem bt_sub0 : ∀ s, s < 256 → ∀ L, L < 256 → decide (og_bit og_oand ((s : Nat) : Int) (-1 - ((L : Nat) : Int)) = 0) = decide (s &&& L = s) := by decide +kernel
theorem bt_sub {s L : Nat} (hs : s < 256) (hL : L < 256) : og_bit og_oand (s : Int) (og_bit og_oxor (L : Int) (-1)) = 0 ↔ s &&& L = s := by
  rw [bt_xor L hL]
  have := bt_sub0 s hs L hL
  exact decide_eq_decide.mp this
end
