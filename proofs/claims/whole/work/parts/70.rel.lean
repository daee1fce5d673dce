section
-- the relation of class and reference to one told state: A the yard, P the rules, U the yards ahead of the latest acts, X all other numbers
-- X 0: 0 rows seen, 1 bytes fed, 2 luck, 3 fault's kind, 4 its place, 5 octets; X 1 what is seen; X 2 bytes; X 3 refusals; X 4 octets; X 5 names
def spl : List Int := [110044143, 180439164, 60162912, 68654304, 232608281, 287754525, 18167409, 335052774, 62290863, 51278373, 287730252, 117481806, 115686468, 194797764, 24666552, 287730117, 212302449, 20919519, 91283922, 224799543, 21867813, 209249973, 20962395, 191594322, 187539624, 91245096, 173106882, 218819934, 295344468, 194895963, 174878163]
def wdM (a : Int) : List Int := if a = 1003 then [103, 114, 97, 118, 101] else if a = 1004 then [108, 111, 110, 103] else if a = 1005 then [100, 101, 101, 112] else if a = 1006 then [100, 117, 101] else if a = 1007 then [112, 101, 114, 115, 111, 110] else if a = 1008 then [116, 97, 108, 108] else if a = 1009 then [97, 103, 101] else if a = 1010 then [119, 105, 108, 108] else if a = 1011 then [100, 105, 101, 115] else if a = 1012 then [99, 111, 109, 101, 115] else if a = 1013 then [116, 97, 107, 101, 115] else if a = 1014 then [104, 101, 97, 114, 116] else if a = 1015 then [104, 97, 114, 109] else if a = 1016 then [109, 111, 110, 116, 104] else if a = 1017 then [97, 115, 107, 101, 100] else if a = 1018 then [116, 97, 107, 101, 110] else if a = 1019 then [110, 117, 109, 98, 101, 114] else if a = 1020 then [97, 108, 105, 118, 101] else if a = 1021 then [102, 105, 116, 115] else if a = 1022 then [111, 114] else if a = 1023 then [97, 110, 100] else if a = 1024 then [110, 111, 116] else if a = 1025 then [97, 108, 108] else if a = 1026 then [109, 105, 110] else if a = 1027 then [109, 97, 120] else if a = 1048 then [102, 105, 114, 115, 116] else if a = 1049 then [108, 97, 115, 116] else if a = 1050 then [111, 102, 116, 101, 110] else if a = 1051 then [116, 111, 116, 97, 108] else if a = 1052 then [109, 111, 115, 116] else if a = 1053 then [108, 101, 97, 115, 116] else if a = 1054 then [110, 111, 116] else if a = 1055 then [97, 110, 100] else if a = 1056 then [111, 114] else if a = 1057 then [97, 108, 108] else if a = 1058 then [109, 105, 110] else if a = 1059 then [109, 97, 120] else if a = 1060 then [97, 103, 101] else if a = 1061 then [116, 97, 108, 108] else if a = 1062 then [119, 105, 108, 108] else if a = 1063 then [109, 111, 110, 116, 104] else if a = 1064 then [97, 115, 107, 101, 100] else if a = 1065 then [116, 97, 107, 101, 110] else if a = 1066 then [110, 117, 109, 98, 101, 114] else if a = 1067 then [97, 108, 105, 118, 101] else if a = 1068 then [102, 105, 116, 115] else if a = 1069 then [100, 117, 101] else []
def nPad (v : Int) : Int := if v < 27 then v * 14348907 else if v < 729 then v * 531441 else if v < 19683 then v * 19683 else if v < 531441 then v * 729 else if v < 14348907 then v * 27 else v
def toldC (h : Hp) : Prop := (h 0 15 = 30 ∧ h 0 16 = 40) ∨ (h 0 15 = 40 ∧ h 0 16 = 30)
def restC (h : Hp) (G N : Int) (P : Pr) (X : Yd) : Prop := (toldC h ∧ hasR h (h 0 15 + 2) N P) ∧ isSn h (X 1) (X 0 0) ∧ (h 1 1 = X 0 1 ∧ ∀ j, 0 ≤ j → j < X 0 1 → h 2 j = X 2 j) ∧ (∀ j, 0 ≤ j → j < 6 → h 22 j = X 3 j) ∧
  (h 0 12 = X 0 2 ∧ h 0 13 = X 0 3 ∧ h 0 14 = X 0 4) ∧ (h 0 11 = X 0 5 ∧ ∀ j, 0 ≤ j → j < X 0 5 → h 23 j = X 4 j) ∧ (∀ j, (0 ≤ j ∧ j < G) ∨ (6 ≤ j ∧ j < 6 + N) → h (h 0 15 + 1) j = nPad (X 5 j)) ∧ (∀ w : Nat, w < 31 → h 4 (w : Int) = spl.getD w 0)
def pastC (h : Hp) (U : List Yd) : Prop := (h 20 1 = U.length ∧ U.length ≤ 20 ∧ 0 ≤ h 20 2 ∧ h 20 2 < 20) ∧ ∀ j : Nat, j < U.length → isY h (140 + 10 * ((h 20 2 + j) % 20)) (U.getD j (fun _ _ => 0))
def relC (q h : Hp) (A : Yd) (P : Pr) (U : List Yd) (X : Yd) : Prop := isY h 100 A ∧ pastC h U ∧ restC h (A 0 0) (A 0 1) P X ∧ ∀ i k, 1000 ≤ i → h i k = q i k
theorem restC_fr {h h' : Hp} {G N : Int} {P : Pr} {X : Yd} (hr : restC h G N P X) (hf : ∀ i k, ((0 ≤ i ∧ i ≤ 6) ∨ i = 10 ∨ i = 11 ∨ (22 ≤ i ∧ i ≤ 45)) → h' i k = h i k) : restC h' G N P X := by
  obtain ⟨⟨a1, a2⟩, b, ⟨c1, c2⟩, d, ⟨e1, e2, e3⟩, ⟨f1, f2⟩, g, w⟩ := hr
  have z : ∀ k, h' 0 k = h 0 k := fun k => hf 0 k (by omega)
  have ht : h 0 15 = 30 ∨ h 0 15 = 40 := a1.elim (fun z => Or.inl z.1) (fun z => Or.inr z.1)
  refine ⟨⟨by unfold toldC; rw [z, z]; exact a1, by rw [z]; exact fun n0 r r0 r1 => isR_eq (a2 n0 r r0 r1) (fun i k p q => hf i k (by omega))⟩, ⟨by rw [hf 10 4 (by omega)]; exact b.1, fun j j0 j1 => by rw [hf 11 j (by omega)]; exact b.2 j j0 j1⟩, ⟨by rw [hf 1 1 (by omega)]; exact c1, fun j j0 j1 => by rw [hf 2 j (by omega)]; exact c2 j j0 j1⟩, fun j j0 j1 => by rw [hf 22 j (by omega)]; exact d j j0 j1, ⟨by rw [z]; exact e1, by rw [z]; exact e2, by rw [z]; exact e3⟩, ⟨by rw [z]; exact f1, fun j j0 j1 => by rw [hf 23 j (by omega)]; exact f2 j j0 j1⟩, fun j hj => by rw [z, hf _ j (by omega)]; exact g j hj, fun k hk => by rw [hf 4 k (by omega)]; exact w k hk⟩
theorem pastC_fr {h h' : Hp} {U : List Yd} (hr : pastC h U) (hf : ∀ i k, (i = 20 ∨ (140 ≤ i ∧ i ≤ 339)) → h' i k = h i k) : pastC h' U := by
  obtain ⟨⟨a, b, c, d⟩, e⟩ := hr
  have z : ∀ k, h' 20 k = h 20 k := fun k => hf 20 k (by omega)
  refine ⟨⟨by rw [z]; exact a, b, by rw [z]; exact c, by rw [z]; exact d⟩, fun j hj => ?_⟩
  rw [z]
  exact isY_fr (e j hj) (fun i k p q => hf i k (by omega))
theorem relC_S {q h h' : Hp} {A : Yd} {P : Pr} {U : List Yd} {X : Yd} (hr : relC q h A P U X) (hf : frS h h') : relC q h' A P U X :=
  ⟨isY_fr hr.1 (fun i k a b => hf i k (by omega)), pastC_fr hr.2.1 (fun i k hi => hf i k (by omega)), restC_fr hr.2.2.1 (fun i k hi => hf i k (by omega)), fun i k hi => (hf i k (by omega)).trans (hr.2.2.2 i k hi)⟩
theorem relC_isC {q h : Hp} {A : Yd} {P : Pr} {U : List Yd} {X : Yd} (hr : relC q h A P U X) : isC h A P := ⟨hr.1, hr.2.2.1.1.1.elim (fun z => Or.inl z.1) (fun z => Or.inr z.1), hr.2.2.1.1.2⟩
-- the reference
def isRow (f : Int → Int) (B : Yd) : Prop := f 0 = B 0 2 ∧ (∀ k, 0 ≤ k → k < B 0 0 → f (1 + 3 * k) = B 2 k ∧ f (2 + 3 * k) = B 3 k ∧ f (3 + 3 * k) = B 4 k) ∧ (∀ k, 0 ≤ k → k < B 0 1 → f (20 + 3 * k) = B 6 k ∧ f (21 + 3 * k) = B 7 k ∧ f (19 + 3 * k) = B 8 k) ∧ f 43 = B 0 3 ∧ ∀ k, 0 ≤ k → k < 4 * B 0 3 → f (44 + k) = B 9 k
def parM (h : Hp) (A : Yd) : Prop := h 1028 2 = A 0 0 ∧ h 1028 3 = A 0 1 ∧ (∀ k, 0 ≤ k → k < A 0 0 → h 1030 (6 + k) = A 1 k) ∧ ∀ k, 0 ≤ k → k < A 0 1 → h 1031 (8 + k) = A 5 k
def restM (h : Hp) (G N : Int) (P : Pr) (X : Yd) : Prop := hasM h P ∧ isSm h (X 1) (X 0 0) ∧ (h 1000 1 = X 0 1 ∧ ∀ j, 0 ≤ j → j < X 0 1 → h 1001 j = X 2 j) ∧ (∀ j, 0 ≤ j → j < 6 → h 1002 j = X 3 j) ∧
  (h 1000 67 = X 0 2 ∧ h 1000 7 = X 0 3 ∧ h 1000 8 = X 0 4) ∧ (h 1000 101 = X 0 5 ∧ ∀ j, 0 ≤ j → j < X 0 5 → h 1073 j = X 4 j) ∧ ((∀ j, 0 ≤ j → j < G → h 1029 (16 + j) = X 5 j) ∧ ∀ j, 0 ≤ j → j < N → h 1029 (24 + j) = X 5 (6 + j)) ∧ (∀ a, (1003 ≤ a ∧ a ≤ 1027) ∨ (1048 ≤ a ∧ a ≤ 1069) → ∀ j : Nat, j < (wdM a).length → h a (j : Int) = (wdM a).getD j 0)
def pastM (h : Hp) (U : List Yd) : Prop := (h 1000 65 = U.length ∧ U.length ≤ 20 ∧ 0 ≤ h 1000 66 ∧ h 1000 66 < 20) ∧ ∀ j : Nat, j < U.length → isRow (fun k => h 1047 (204 * ((h 1000 66 + 21 + j - U.length) % 20) + k)) (U.getD j (fun _ _ => 0))
def relM (q h : Hp) (M : Int) (A : Yd) (P : Pr) (U : List Yd) (X : Yd) : Prop := (isN h A ∧ h 1000 53 = 0 ∧ tmB M h) ∧ pastM h U ∧ restM h (A 0 0) (A 0 1) P X ∧ ∀ i k, i < 1000 → h i k = q i k
theorem restM_fr {h h' : Hp} {G N : Int} {P : Pr} {X : Yd} (hr : restM h G N P X) (hf : ∀ i k, ((1001 ≤ i ∧ i ≤ 1036) ∨ i = 1045 ∨ (1048 ≤ i ∧ i ≤ 1069) ∨ i = 1073 ∨ (i = 1000 ∧ (k = 1 ∨ k = 7 ∨ k = 8 ∨ k = 61 ∨ k = 67 ∨ k = 101))) → h' i k = h i k) : restM h' G N P X := by
  obtain ⟨a, b, ⟨c1, c2⟩, d, ⟨e1, e2, e3⟩, ⟨f1, f2⟩, ⟨g1, g2⟩, w⟩ := hr
  exact ⟨hasM_fr a (fun i k hi => hf i k (by omega)), ⟨by rw [hf 1000 61 (by omega)]; exact b.1, fun j j0 j1 => by rw [hf 1045 j (by omega)]; exact b.2 j j0 j1⟩, ⟨by rw [hf 1000 1 (by omega)]; exact c1, fun j j0 j1 => by rw [hf 1001 j (by omega)]; exact c2 j j0 j1⟩, fun j j0 j1 => by rw [hf 1002 j (by omega)]; exact d j j0 j1, ⟨by rw [hf 1000 67 (by omega)]; exact e1, by rw [hf 1000 7 (by omega)]; exact e2, by rw [hf 1000 8 (by omega)]; exact e3⟩, ⟨by rw [hf 1000 101 (by omega)]; exact f1, fun j j0 j1 => by rw [hf 1073 j (by omega)]; exact f2 j j0 j1⟩, ⟨fun j j0 j1 => by rw [hf 1029 _ (by omega)]; exact g1 j j0 j1, fun j j0 j1 => by rw [hf 1029 _ (by omega)]; exact g2 j j0 j1⟩, fun b hb j hj => by rw [hf b _ (by omega)]; exact w b hb j hj⟩
theorem pastM_fr {h h' : Hp} {U : List Yd} (hr : pastM h U) (hf : ∀ i k, (i = 1047 ∨ (i = 1000 ∧ (k = 65 ∨ k = 66))) → h' i k = h i k) : pastM h' U := by
  obtain ⟨⟨a, b, c, d⟩, e⟩ := hr
  have z1 := hf 1000 65 (by omega)
  have z2 := hf 1000 66 (by omega)
  refine ⟨⟨by rw [z1]; exact a, b, by rw [z2]; exact c, by rw [z2]; exact d⟩, fun j hj => ?_⟩
  rw [z2]
  have e2 : (fun k => h' 1047 (204 * ((h 1000 66 + 21 + j - U.length) % 20) + k)) = (fun k => h 1047 (204 * ((h 1000 66 + 21 + j - U.length) % 20) + k)) := by
    funext k
    exact hf 1047 _ (by omega)
  rw [e2]
  exact e j hj
theorem isN_row {h : Hp} {A : Yd} (hn : isN h A) (h53 : h 1000 53 = 0) : isRow (h 1037) A ∧ parM h A := by
  obtain ⟨m1, m2, m3⟩ := hn.1
  have mk := hn.2 h53
  exact ⟨⟨m1.2.2, fun k a b => ⟨(m2 k a b).2.1, (m2 k a b).2.2.1, (m2 k a b).2.2.2⟩, fun k a b => ⟨(m3 k a b).2.1, (m3 k a b).2.2.1, (m3 k a b).2.2.2⟩, mk.1, mk.2⟩, m1.1, m1.2.1, fun k a b => (m2 k a b).1, fun k a b => (m3 k a b).1⟩
theorem row_isN {h : Hp} {A : Yd} (hr : isRow (h 1037) A) (hp : parM h A) : isN h A := by
  obtain ⟨a, b, c, d, e⟩ := hr
  exact ⟨⟨⟨hp.1, hp.2.1, a⟩, fun k k0 k1 => ⟨hp.2.2.1 k k0 k1, b k k0 k1⟩, fun k k0 k1 => ⟨hp.2.2.2 k k0 k1, c k k0 k1⟩⟩, fun _ => ⟨d, e⟩⟩
theorem isN_fr {h h' : Hp} {A : Yd} (hn : isN h A) (ho : okY A) (h53 : h 1000 53 = 0) (h53' : h' 1000 53 = 0) (hf : ∀ i k, (i = 1028 ∨ i = 1030 ∨ i = 1031 ∨ (i = 1037 ∧ 0 ≤ k)) → h' i k = h i k) : isN h' A := by
  have h6 := ho.1
  refine ⟨isM_fr2 ho hn.1 (fun i k hi => hf i k (by omega)) (fun k k0 k1 => hf _ _ (by omega)), fun _ => ?_⟩
  have mk := hn.2 h53
  exact ⟨by rw [hf _ _ (by omega)]; exact mk.1, fun k k0 k1 => by rw [hf _ _ (by omega)]; exact mk.2 k k0 k1⟩
theorem relM_Q {q h h' : Hp} {M M' : Int} {A : Yd} {P : Pr} {U : List Yd} {X : Yd} (hr : relM q h M A P U X) (ho : okY A) (hf : frQ h h') (hb : tmB M' h') (hlo : ∀ i k, i < 1000 → h' i k = h i k) : relM q h' M' A P U X := by
  have e53 := (hf 1000 53 (by decide) (fun _ => by decide) (fun z => absurd z (by decide))).trans hr.1.2.1
  exact ⟨⟨isN_fr hr.1.1 ho hr.1.2.1 e53 (fun i k hi => hf i k (by omega) (fun z => by omega) (fun z => by omega)), e53, hb⟩, pastM_fr hr.2.1 (fun i k hi => hf i k (by omega) (fun z => by omega) (fun z => by omega)), restM_fr hr.2.2.1 (fun i k hi => hf i k (by omega) (fun z => by omega) (fun z => by omega)), fun i k hi => (hlo i k hi).trans (hr.2.2.2 i k hi)⟩
theorem relM_Q' {q h h' : Hp} {M M' : Int} {A : Yd} {P : Pr} {U : List Yd} {X : Yd} (hr : relM q h M A P U X) (ho : okY A) (hf : frQ h h') (hb : tmB M' h') : relM q h' M' A P U X := relM_Q hr ho hf hb (fun i k hi => hf i k (by omega) (fun z => by omega) (fun z => by omega))
def okU (A B : Yd) : Prop := okY B ∧ okK B ∧ B 0 2 ≤ 999 ∧ B 0 0 = A 0 0 ∧ B 0 1 = A 0 1 ∧ (∀ k, 0 ≤ k → k < A 0 0 → B 1 k = A 1 k) ∧ ∀ k, 0 ≤ k → k < A 0 1 → B 5 k = A 5 k
/-- what holds of a told state behind n calls -/
def okX (n : Int) (A : Yd) (P : Pr) (U : List Yd) (X : Yd) : Prop := (okY A ∧ okK A ∧ A 0 2 ≤ 999) ∧ okQ P ∧ (∀ j : Nat, j < U.length → okU A (U.getD j (fun _ _ => 0))) ∧ okS A (X 1) (X 0 0) ∧ ((0 ≤ X 0 1 ∧ X 0 1 ≤ 1600) ∧ ∀ j, 0 ≤ j → j < X 0 1 → 0 ≤ X 2 j ∧ X 2 j ≤ 255) ∧ (∀ j, 0 ≤ j → j < 6 → 0 ≤ X 3 j ∧ X 3 j ≤ n) ∧ (0 ≤ X 0 2 ∧ X 0 2 ≤ 2147483647) ∧ (0 ≤ X 0 5 ∧ X 0 5 ≤ 45) ∧ ∀ j, (0 ≤ j ∧ j < A 0 0) ∨ (6 ≤ j ∧ j < 6 + A 0 1) → 1 ≤ X 5 j ∧ X 5 j < 387420489
end
