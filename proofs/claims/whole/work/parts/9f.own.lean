section
-- the reference's own words here, and names
section
variable {h h0 h' : Hp} {B : Int → Int} {n a : Int} {K : Int → Hp → Prop}
def iH (h0 : Hp) (B : Int → Int) (n a : Int) (h : Hp) : Prop := txM h B n ∧ (refS h B n a ∧ h 1000 2 = tS B n a) ∧ ∀ i k, ¬ (i = 1000 ∧ k = 2) → h i k = h0 i k
def csP (I : Hp → Prop) (C : og_Cd) (env : List Int) (P : Prop) : Prop := ∀ h (T F : Hp → Prop), I h → (P → ∀ h', I h' → T h') → (¬ P → ∀ h', I h' → F h') → C env h T F
theorem cs_or {I : Hp → Prop} {C D : og_Cd} {env : List Int} {P Q : Prop} (hC : csP I C env P) (hD : csP I D env Q) : csP I (og_or C D) env (P ∨ Q) := by
  intro h T F i hT hF
  show C env h T (fun h1 => D env h1 T F)
  exact hC h _ _ i (fun p h1 i1 => hT (Or.inl p) h1 i1) (fun p h1 i1 => hD h1 _ _ i1 (fun q h2 i2 => hT (Or.inr q) h2 i2) (fun q h2 i2 => hF (fun z => z.elim p q) h2 i2))
theorem cs_is {x w : Int} (hw : idW w) : csP (iH h0 B n a) (og_cb (og_call m_Model_isHere [og_loc 0, og_fix (fun _ => w) (og_loc 0)])) [1000, x] (wrd B n a = wnM w) := by
  intro h T F i hT hF
  exact r_isHC hw i.1 i.2.1.1 (fun q h1 r1 v1 f1 => hT q h1 ⟨txM_Z i.1 (fr2_Z f1), ⟨r1, v1⟩, fr2_tr i.2.2 f1⟩) (fun q h1 r1 v1 f1 => hF q h1 ⟨txM_Z i.1 (fr2_Z f1), ⟨r1, v1⟩, fr2_tr i.2.2 f1⟩)
theorem cs_loc {I : Hp → Prop} {x : Int} : csP I (og_cb (og_loc 1)) [1000, x] (¬ x = 0) := by
  intro h T F i hT hF
  show (x ≠ 0 → T h) ∧ (x = 0 → F h)
  exact ⟨fun z => hT z h i, fun z => hF (fun q => q z) h i⟩
theorem cs_set {I : Hp → Prop} {C : og_Cd} {x : Int} {P : Prop} {N : List Int → Hp → Prop} {R : Int → Hp → Prop} {Bk Ct : List Int → Hp → Prop} (hC : csP I C [1000, x] P) (hi : I h) (hN : ∀ v h', I h' → ((v = 1 ∧ P) ∨ (v = 0 ∧ ¬ P)) → N [1000, v] h') : og_set 1 (og_ec C) [1000, x] h N R Bk Ct := by
  show C [1000, x] h (fun h1 => N [1000, 1] h1) (fun h1 => N [1000, 0] h1)
  exact hC h _ _ hi (fun p h1 i1 => hN 1 h1 i1 (Or.inl ⟨rfl, p⟩)) (fun p h1 i1 => hN 0 h1 i1 (Or.inr ⟨rfl, p⟩))
theorem own_1 {v w : Int} (p : (v = 1 ∧ (((((w = 0 ∨ w = 1) ∨ w = 2) ∨ w = 3) ∨ w = 4) ∨ w = 5)) ∨ (v = 0 ∧ ¬ (((((w = 0 ∨ w = 1) ∨ w = 2) ∨ w = 3) ∨ w = 4) ∨ w = 5))) : (v = 1 ∧ (0 ≤ w ∧ w ≤ 5)) ∨ (v = 0 ∧ ¬ (0 ≤ w ∧ w ≤ 5)) := by
  rcases p with ⟨e, p⟩ | ⟨e, p⟩
  · left
    refine ⟨e, ?_⟩
    omega
  · right
    refine ⟨e, ?_⟩
    omega
theorem own_2 {u v w : Int} (q : (u = 1 ∧ (0 ≤ w ∧ w ≤ 5)) ∨ (u = 0 ∧ ¬ (0 ≤ w ∧ w ≤ 5))) (p : (v = 1 ∧ ((((((¬ u = 0 ∨ w = 6) ∨ w = 7) ∨ w = 8) ∨ w = 9) ∨ w = 10) ∨ w = 11)) ∨ (v = 0 ∧ ¬ ((((((¬ u = 0 ∨ w = 6) ∨ w = 7) ∨ w = 8) ∨ w = 9) ∨ w = 10) ∨ w = 11))) : (v = 1 ∧ (0 ≤ w ∧ w ≤ 11)) ∨ (v = 0 ∧ ¬ (0 ≤ w ∧ w ≤ 11)) := by
  rcases p with ⟨e, p⟩ | ⟨e, p⟩
  · left
    refine ⟨e, ?_⟩
    omega
  · right
    refine ⟨e, ?_⟩
    omega
theorem own_3 {u v w : Int} (q : (u = 1 ∧ (0 ≤ w ∧ w ≤ 11)) ∨ (u = 0 ∧ ¬ (0 ≤ w ∧ w ≤ 11))) (p : (v = 1 ∧ ((((((¬ u = 0 ∨ w = 12) ∨ w = 13) ∨ w = 14) ∨ w = 15) ∨ w = 16) ∨ w = 17)) ∨ (v = 0 ∧ ¬ ((((((¬ u = 0 ∨ w = 12) ∨ w = 13) ∨ w = 14) ∨ w = 15) ∨ w = 16) ∨ w = 17))) : (v = 1 ∧ (0 ≤ w ∧ w ≤ 17)) ∨ (v = 0 ∧ ¬ (0 ≤ w ∧ w ≤ 17)) := by
  rcases p with ⟨e, p⟩ | ⟨e, p⟩
  · left
    refine ⟨e, ?_⟩
    omega
  · right
    refine ⟨e, ?_⟩
    omega
theorem own_4 {u v w : Int} (q : (u = 1 ∧ (0 ≤ w ∧ w ≤ 17)) ∨ (u = 0 ∧ ¬ (0 ≤ w ∧ w ≤ 17))) (p : (v = 1 ∧ ((((((¬ u = 0 ∨ w = 18) ∨ w = 19) ∨ w = 20) ∨ w = 21) ∨ w = 22) ∨ w = 23)) ∨ (v = 0 ∧ ¬ ((((((¬ u = 0 ∨ w = 18) ∨ w = 19) ∨ w = 20) ∨ w = 21) ∨ w = 22) ∨ w = 23))) : (v = 1 ∧ (0 ≤ w ∧ w ≤ 23)) ∨ (v = 0 ∧ ¬ (0 ≤ w ∧ w ≤ 23)) := by
  rcases p with ⟨e, p⟩ | ⟨e, p⟩
  · left
    refine ⟨e, ?_⟩
    omega
  · right
    refine ⟨e, ?_⟩
    omega
theorem own_5 {u v w : Int} (q : (u = 1 ∧ (0 ≤ w ∧ w ≤ 23)) ∨ (u = 0 ∧ ¬ (0 ≤ w ∧ w ≤ 23))) (p : (v = 1 ∧ (¬ u = 0 ∨ w = 24)) ∨ (v = 0 ∧ ¬ (¬ u = 0 ∨ w = 24))) : (v = 1 ∧ (0 ≤ w ∧ w ≤ 24)) ∨ (v = 0 ∧ ¬ (0 ≤ w ∧ w ≤ 24)) := by
  rcases p with ⟨e, p⟩ | ⟨e, p⟩
  · left
    refine ⟨e, ?_⟩
    omega
  · right
    refine ⟨e, ?_⟩
    omega
set_option maxHeartbeats 150000 in
theorem r_isOwnHere (ht : txM h B n) (hr : refS h B n a) (h2 : h 1000 2 = tS B n a) (hK : ∀ h', refS h' B n a → h' 1000 2 = tS B n a → (∀ i k, ¬ (i = 1000 ∧ k = 2) → h' i k = h i k) → K (if 0 ≤ wrd B n a ∧ wrd B n a ≤ 24 then 1 else 0) h') : m_Model_isOwnHere [1000] h K := by
  have i0 : iH h B n a h := ⟨ht, ⟨hr, h2⟩, fun _ _ _ => rfl⟩
  unfold m_Model_isOwnHere
  rw [dn_den, show og_pad 2 (og_ent [17] [1000]) = [1000, 0] from rfl]
  simp -implicitDefEqProofs only [↓dn_seq]
  refine cs_set (cs_or (cs_or (cs_or (cs_or (cs_or (cs_is (w := 1003) (by unfold idW; omega)) (cs_is (w := 1004) (by unfold idW; omega))) (cs_is (w := 1005) (by unfold idW; omega))) (cs_is (w := 1006) (by unfold idW; omega))) (cs_is (w := 1007) (by unfold idW; omega))) (cs_is (w := 1008) (by unfold idW; omega))) i0 (fun v1 h1 i1 p1 => ?_)
  refine cs_set (cs_or (cs_or (cs_or (cs_or (cs_or (cs_or cs_loc (cs_is (w := 1009) (by unfold idW; omega))) (cs_is (w := 1010) (by unfold idW; omega))) (cs_is (w := 1011) (by unfold idW; omega))) (cs_is (w := 1012) (by unfold idW; omega))) (cs_is (w := 1013) (by unfold idW; omega))) (cs_is (w := 1014) (by unfold idW; omega))) i1 (fun v2 h2' i2 p2 => ?_)
  refine cs_set (cs_or (cs_or (cs_or (cs_or (cs_or (cs_or cs_loc (cs_is (w := 1015) (by unfold idW; omega))) (cs_is (w := 1016) (by unfold idW; omega))) (cs_is (w := 1017) (by unfold idW; omega))) (cs_is (w := 1018) (by unfold idW; omega))) (cs_is (w := 1019) (by unfold idW; omega))) (cs_is (w := 1020) (by unfold idW; omega))) i2 (fun v3 h3 i3 p3 => ?_)
  refine cs_set (cs_or (cs_or (cs_or (cs_or (cs_or (cs_or cs_loc (cs_is (w := 1021) (by unfold idW; omega))) (cs_is (w := 1022) (by unfold idW; omega))) (cs_is (w := 1023) (by unfold idW; omega))) (cs_is (w := 1024) (by unfold idW; omega))) (cs_is (w := 1025) (by unfold idW; omega))) (cs_is (w := 1026) (by unfold idW; omega))) i3 (fun v4 h4 i4 p4 => ?_)
  refine cs_set (cs_or cs_loc (cs_is (w := 1027) (by unfold idW; omega))) i4 (fun v5 h5 i5 p5 => ?_)
  rw [show wnM 1003 = 0 by decide, show wnM 1004 = 1 by decide, show wnM 1005 = 2 by decide, show wnM 1006 = 3 by decide, show wnM 1007 = 4 by decide, show wnM 1008 = 5 by decide] at p1
  have k1 := own_1 p1
  rw [show wnM 1009 = 6 by decide, show wnM 1010 = 7 by decide, show wnM 1011 = 8 by decide, show wnM 1012 = 9 by decide, show wnM 1013 = 10 by decide, show wnM 1014 = 11 by decide] at p2
  have k2 := own_2 k1 p2
  rw [show wnM 1015 = 12 by decide, show wnM 1016 = 13 by decide, show wnM 1017 = 14 by decide, show wnM 1018 = 15 by decide, show wnM 1019 = 16 by decide, show wnM 1020 = 17 by decide] at p3
  have k3 := own_3 k2 p3
  rw [show wnM 1021 = 18 by decide, show wnM 1022 = 19 by decide, show wnM 1023 = 20 by decide, show wnM 1024 = 21 by decide, show wnM 1025 = 22 by decide, show wnM 1026 = 23 by decide] at p4
  have k4 := own_4 k3 p4
  rw [show wnM 1027 = 24 by decide] at p5
  have k5 := own_5 k4 p5
  have key := k5
  rw [dn_retz, dn_loc]
  have fin := hK h5 i5.2.1.1 i5.2.1.2 i5.2.2
  rcases key with ⟨rfl, q⟩ | ⟨rfl, q⟩
  · rw [if_pos q] at fin
    exact ⟨by simp, fin⟩
  · rw [if_neg q] at fin
    exact ⟨by simp, fin⟩
end
end
