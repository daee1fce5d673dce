section
-- the words' numbers, sign by sign
def sg_vl (i : Nat) : Int := if sg_b.getD i 0 = 32 then 0 else (sg_b.getD i 0).toInt - 97 + 1
def sg_wv (w : Nat) : Nat → Int
  | 0 => 0
  | k + 1 => 27 * sg_wv w k + sg_vl (6 * w + k)
def sg_sp (i : Nat) : List Int := (List.range 31).map fun w => sg_wv w (min 6 (i - 6 * w))
theorem sg_sp_len {i : Nat} : (sg_sp i).length = 31 := by simp [sg_sp]
theorem sg_sp_get {i w : Nat} (h : w < 31) : (sg_sp i).getD w 0 = sg_wv w (min 6 (i - 6 * w)) := by
  unfold sg_sp
  rw [List.getD_eq_getElem?_getD, List.getElem?_map, List.getElem?_range h]
  rfl
theorem sg_sp_e : sg_sp 186 = spl := by decide +kernel
theorem sg_sp_s {i : Nat} (hi : i < 186) : (sg_sp i).set (i / 6) (27 * (sg_sp i).getD (i / 6) 0 + sg_vl i) = sg_sp (i + 1) := by
  have hq : i / 6 < 31 := by omega
  rw [sg_sp_get hq]
  apply List.ext_getElem?
  intro k
  by_cases hk : k < 31
  · by_cases e : k = i / 6
    · subst e
      rw [List.getElem?_set_self (by rw [sg_sp_len]; exact hq)]
      unfold sg_sp
      rw [List.getElem?_map, List.getElem?_range hq]
      simp only [Option.map_some]
      congr 1
      rw [show min 6 (i + 1 - 6 * (i / 6)) = min 6 (i - 6 * (i / 6)) + 1 by omega]
      show _ = 27 * sg_wv (i / 6) (min 6 (i - 6 * (i / 6))) + sg_vl (6 * (i / 6) + min 6 (i - 6 * (i / 6)))
      rw [show 6 * (i / 6) + min 6 (i - 6 * (i / 6)) = i by omega]
    · rw [List.getElem?_set_ne (by omega)]
      unfold sg_sp
      rw [List.getElem?_map, List.getElem?_map, List.getElem?_range hk]
      simp only [Option.map_some]
      congr 2
      omega
  · rw [List.getElem?_eq_none (by rw [List.length_set, sg_sp_len]; omega), List.getElem?_eq_none (by rw [sg_sp_len]; omega)]
theorem sg_up {l : List Int} {j : Nat} {x : Int} (hj : j < l.length) : upd (fun k => Int32.ofInt (l.getD k 0)) j (Int32.ofInt x) = fun k => Int32.ofInt ((l.set j x).getD k 0) := by
  funext k
  simp only [upd, List.getD_eq_getElem?_getD]
  by_cases h : k = j
  · subst h
    rw [if_pos rfl, List.getElem?_set_self hj]
    rfl
  · rw [if_neg h, List.getElem?_set_ne (by omega)]
theorem sg_z31 : cn_a 0 31 [] = cn_a 0 31 (sg_sp 0) := by
  unfold cn_a
  simp only
  congr 2
  funext k
  by_cases h : k < 31
  · rw [sg_sp_get h]
    simp [sg_wv]
  · rw [List.getD_eq_getElem?_getD, List.getD_eq_getElem?_getD, List.getElem?_eq_none (l := sg_sp 0) (by rw [sg_sp_len]; omega)]
    simp
theorem sg_dv : ∀ i : Nat, i < 186 → Int32.ofInt (i : Int) / 6 = Int32.ofInt ((i / 6 : Nat) : Int) := by decide +kernel
theorem sg_va : ∀ i : Nat, i < 186 → ¬ sg_b.getD i 0 = 32 → sg_b.getD i 0 - 97 + 1 = Int32.ofInt (sg_vl i) := by decide +kernel
end
