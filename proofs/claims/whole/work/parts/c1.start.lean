section
-- the first heap stands for an empty parish on both sides
def cn_X0 : Yd := fun c k => if c = 0 ∧ k = 2 then 1 else if c = 0 ∧ k = 4 then -1 else 0
def cn_A0 : Yd := fun _ _ => 0
def cn_P0 : Pr := fuP (fun _ => [])
theorem cn_hz {i k : Int} (h : cn_T i = []) : cn_h0 i k = 0 := by
  unfold cn_h0
  rw [h]
  rfl
theorem cn_P0r {r : Int} : cn_P0 r = dflt (r - 8) := by
  unfold cn_P0 fuP
  rw [if_pos rfl]
theorem cn_okQ : okQ cn_P0 := by
  have h8 : ∀ r : Int, 8 ≤ r → r ≤ 12 → r = 8 ∨ r = 9 ∨ r = 10 ∨ r = 11 ∨ r = 12 := fun r a b => by omega
  refine ⟨fun r a b => ?_, fun r a b => ?_⟩
  · rw [cn_P0r]
    rcases h8 r a b with rfl | rfl | rfl | rfl | rfl
    · exact ⟨false, by decide +kernel, fun h => absurd h (by decide)⟩
    · exact ⟨true, by decide +kernel, fun _ => rfl⟩
    · exact ⟨false, by decide +kernel, fun h => absurd h (by decide)⟩
    · exact ⟨false, by decide +kernel, fun h => absurd h (by decide)⟩
    · exact ⟨false, by decide +kernel, fun h => absurd h (by decide)⟩
  · rw [cn_P0r]
    rcases h8 r a b with rfl | rfl | rfl | rfl | rfl <;> decide +kernel
theorem cn_w0 {a : Int} (h : (1003 ≤ a ∧ a ≤ 1027) ∨ (1048 ≤ a ∧ a ≤ 1069)) : cn_T a = wdM a := by
  unfold cn_T
  rw [if_neg (by omega), if_neg (by omega), if_neg (by omega), if_neg (by omega), if_neg (by omega), if_neg (by omega)]
theorem cn_T4 : cn_T 4 = spl := by decide +kernel
theorem cn_relC : relC cn_h0 cn_h0 cn_A0 cn_P0 [] cn_X0 := by
  refine ⟨⟨by decide +kernel, fun k a b => ?_, fun k a b => ?_, fun k a b => ?_⟩, ⟨by decide +kernel, fun j hj => absurd hj (Nat.not_lt_zero j)⟩, ⟨⟨Or.inl (by decide +kernel), fun h => absurd h (by decide)⟩, ⟨by decide +kernel, fun j a b => ?_⟩, ⟨by decide +kernel, fun j a b => ?_⟩, fun j a b => cn_hz (by decide +kernel), by decide +kernel, ⟨by decide +kernel, fun j a b => ?_⟩, fun j h => ?_, fun w hw => by rw [cn_h0k, cn_T4]⟩, fun i k _ => rfl⟩
  · have b : k < 0 := b
    omega
  · have b : k < 0 := b
    omega
  · have b : k < 4 * 0 := b
    omega
  · have b : j < 3 * 0 := b
    omega
  · have b : j < 0 := b
    omega
  · have b : j < 0 := b
    omega
  · have h : (0 ≤ j ∧ j < 0) ∨ (6 ≤ j ∧ j < 6 + 0) := h
    omega
theorem cn_relM : relM cn_h0 cn_h0 (2000 * 0) cn_A0 cn_P0 [] cn_X0 := by
  refine ⟨⟨⟨⟨by decide +kernel, fun k a b => ?_, fun k a b => ?_⟩, fun _ => ⟨by decide +kernel, fun k a b => ?_⟩⟩, by decide +kernel, ⟨by decide +kernel, by decide +kernel⟩⟩, ⟨by decide +kernel, fun j hj => absurd hj (Nat.not_lt_zero j)⟩, ⟨fun w a b => Or.inl ⟨?_, ?_⟩, ⟨by decide +kernel, fun j a b => ?_⟩, ⟨by decide +kernel, fun j a b => ?_⟩, fun j a b => cn_hz (by decide +kernel), by decide +kernel, ⟨by decide +kernel, fun j a b => ?_⟩, ⟨fun j a b => ?_, fun j a b => ?_⟩, fun a h j hj => ?_⟩, fun i k _ => rfl⟩
  · have b : k < 0 := b
    omega
  · have b : k < 0 := b
    omega
  · have b : k < 4 * 0 := b
    omega
  · have h5 : w = 0 ∨ w = 1 ∨ w = 2 ∨ w = 3 ∨ w = 4 := by omega
    rcases h5 with rfl | rfl | rfl | rfl | rfl <;> decide +kernel
  · rw [cn_P0r]
    congr 1
    omega
  · have b : j < 3 * 0 := b
    omega
  · have b : j < 0 := b
    omega
  · have b : j < 0 := b
    omega
  · have b : j < 0 := b
    omega
  · have b : j < 0 := b
    omega
  · rw [cn_h0k, cn_w0 h]
theorem cn_okX : okX 0 cn_A0 cn_P0 [] cn_X0 := by
  refine ⟨⟨⟨by decide, fun k a b => ?_, fun k a b => ?_⟩, (by show cn_A0 0 3 + sCnt (sLive cn_A0) (sNp cn_A0) ≤ cn_A0 0 1; decide), by decide⟩, cn_okQ, fun j hj => absurd hj (Nat.not_lt_zero j), ⟨by decide, fun k a b => ?_⟩, ⟨by decide, fun j a b => ?_⟩, fun j a b => ⟨?_, ?_⟩, by decide, by decide, fun j h => ?_⟩
  · have b : k < 0 := b
    omega
  · have b : k < 0 := b
    omega
  · have b : k < 0 := b
    omega
  · have b : j < 0 := b
    omega
  · exact Int.le_refl 0
  · exact Int.le_refl 0
  · have h : (0 ≤ j ∧ j < 0) ∨ (6 ≤ j ∧ j < 6 + 0) := h
    omega
theorem cn_ST0 : ST 0 cn_h0 := ⟨cn_A0, cn_P0, [], cn_X0, cn_relC, cn_relM, cn_okX⟩
end
