section
-- both sides answer alike, and go on alike
section
variable {q h h1 h2 : Hp} {A A' : Yd} {P P' : Pr} {U U' : List Yd} {X X' : Yd} {n M M' : Int} {K : Int → Hp → Prop}
theorem relM_lo (hr : relM q h M A P U X) (ho : okY A) (hf : ∀ i k, 1000 ≤ i → h1 i k = h i k) : relM h1 h1 M A P U X := by
  obtain ⟨⟨y, z, t⟩, p, r, -⟩ := hr
  have z' : h1 1000 53 = 0 := (hf _ _ (by omega)).trans z
  exact ⟨⟨isN_fr y ho z z' (fun i k hi => hf i k (by omega)), z', by unfold tmB; rw [hf _ _ (by omega)]; exact t⟩, pastM_fr p (fun i k hi => hf i k (by omega)), restM_fr r (fun i k hi => hf i k (by omega)), fun _ _ _ => rfl⟩
theorem relC_hi (hr : relC q h A P U X) (hf : ∀ i k, i < 1000 → h1 i k = h i k) : relC h1 h1 A P U X := ⟨isY_fr hr.1 (fun i k a b => hf i k (by omega)), pastC_fr hr.2.1 (fun i k hi => hf i k (by omega)), restC_fr hr.2.2.1 (fun i k hi => hf i k (by omega)), fun _ _ _ => rfl⟩
def ST (n : Int) (h : Hp) : Prop := ∃ A P U X, relC h h A P U X ∧ relM h h (2000 * n) A P U X ∧ okX n A P U X
theorem st_fin (hc : relC h h1 A' P' U' X') (hm : relM h1 h2 M' A' P' U' X') (hM : M' ≤ 2000 * (n + 1)) (hx : okX (n + 1) A' P' U' X') : ST (n + 1) h2 := by
  have m2 : relM h2 h2 M' A' P' U' X' := relM_lo hm hx.1.1 (fun _ _ _ => rfl)
  exact ⟨A', P', U', X', relC_hi hc (fun i k hi => hm.2.2.2 i k hi), ⟨⟨m2.1.1, m2.1.2.1, ⟨m2.1.2.2.1, Int.le_trans m2.1.2.2.2 hM⟩⟩, m2.2⟩, hx⟩
theorem st_same (hc : relC h h A P U X) (hm : relM h h (2000 * n) A P U X) (hx : okX n A P U X) : ST (n + 1) h := st_fin hc hm (by omega) (okX_mono hx (by omega))
theorem st_lo (hc : relC h h1 A' P' U' X') (hm : relM h h M A P U X) (hx : okX n A P U X) : relM h1 h1 M A P U X := relM_lo hm hx.1.1 hc.2.2.2
theorem st_S (hm : relM h h M A P U X) (hx : okX n A P U X) (hf : frS h h1) : relM h1 h1 M A P U X := relM_lo hm hx.1.1 (fun i k hi => hf i k (by omega))
theorem st_q (hc : relC h h A P U X) (hm : relM h1 h1 (2000 * n) A P U X) (hx : okX n A P U X) (f1 : frS h h1) (f2 : frQ h1 h2) (hb : tmB (2000 * n + 2000) h2) : ST (n + 1) h2 := by
  have c1 : relC h h1 A P U X := relC_S hc f1
  exact st_fin c1 (relM_Q' hm hx.1.1 f2 hb) (by omega) (okX_mono hx (by omega))
theorem st_q0 (hc : relC h h A P U X) (hm : relM h1 h1 (2000 * n) A P U X) (hx : okX n A P U X) (f1 : frS h h1) (f2 : frQ h1 h2) (hb : h2 1000 54 = h1 1000 54) : ST (n + 1) h2 := st_q hc hm hx f1 f2 ⟨by rw [hb]; exact hm.1.2.2.1, by rw [hb]; have := hm.1.2.2.2; omega⟩
theorem frE_Q (hf : frE h1 h2) : frQ h1 h2 := fun i k a b c => hf i k (by omega) (fun z => by have := b z; omega)
theorem st_has {w : Int} (hn : 0 ≤ n ∧ n ≤ 1000) (hs : ST n h) : m_OG_has [0, w] h (fun y1 h1 => m_Model_has [1000, w] h1 (fun y2 h2 => y1 = y2 ∧ ST (n + 1) h2)) := by
  obtain ⟨A, P, U, X, hc, hm, hx⟩ := hs
  have e1 : h 10 4 = X 0 0 := hc.2.2.1.2.1.1
  have e2 : h 20 1 = U.length := hc.2.1.1.1
  have e3 : h 1000 61 = X 0 0 := hm.2.2.1.2.1.1
  have e4 : h 1000 65 = U.length := hm.2.1.1.1
  exact c_has hc.1 hx.1.1 (r_has hm.1.1 hm.1.2.1 hx.1.1 ⟨by rw [e1, e2, e3, e4], st_same hc hm hx⟩)
theorem st_grave {g w : Int} (hn : 0 ≤ n ∧ n ≤ 1000) (hs : ST n h) : m_OG_grave [0, g, w] h (fun y1 h1 => m_Model_grave [1000, g, w] h1 (fun y2 h2 => y1 = y2 ∧ ST (n + 1) h2)) := by
  obtain ⟨A, P, U, X, hc, hm, hx⟩ := hs
  exact c_grave hc.1 hx.1.1 (r_grave hm.1.1.1 hx.1.1 ⟨rfl, st_same hc hm hx⟩)
theorem st_person {p w : Int} (hn : 0 ≤ n ∧ n ≤ 1000) (hs : ST n h) : m_OG_person [0, p, w] h (fun y1 h1 => m_Model_person [1000, p, w] h1 (fun y2 h2 => y1 = y2 ∧ ST (n + 1) h2)) := by
  obtain ⟨A, P, U, X, hc, hm, hx⟩ := hs
  exact c_person hc.1 hx.1.1 (r_person hm.1.1.1 hx.1.1 ⟨rfl, st_same hc hm hx⟩)
theorem st_next {p : Int} (hn : 0 ≤ n ∧ n ≤ 1000) (hs : ST n h) : m_OG_next [0, p] h (fun y1 h1 => m_Model_next [1000, p] h1 (fun y2 h2 => y1 = y2 ∧ ST (n + 1) h2)) := by
  obtain ⟨A, P, U, X, hc, hm, hx⟩ := hs
  exact c_next hc.1 hx.1.1 (r_next hm.1.1.1 hx.1.1 ⟨rfl, st_same hc hm hx⟩)
theorem st_kept {k w : Int} (hn : 0 ≤ n ∧ n ≤ 1000) (hs : ST n h) : m_OG_kept [0, k, w] h (fun y1 h1 => m_Model_kept [1000, k, w] h1 (fun y2 h2 => y1 = y2 ∧ ST (n + 1) h2)) := by
  obtain ⟨A, P, U, X, hc, hm, hx⟩ := hs
  exact c_kept hc.1 hx.1.1 (r_kept hm.1.1 hm.1.2.1 hx.1.1 ⟨rfl, st_same hc hm hx⟩)
theorem st_status {w : Int} (hn : 0 ≤ n ∧ n ≤ 1000) (hs : ST n h) : m_OG_status [0, w] h (fun y1 h1 => m_Model_status [1000, w] h1 (fun y2 h2 => y1 = y2 ∧ ST (n + 1) h2)) := by
  obtain ⟨A, P, U, X, hc, hm, hx⟩ := hs
  exact c_status hc (m_status hm ⟨rfl, st_same hc hm hx⟩)
theorem st_fault {w : Int} (hn : 0 ≤ n ∧ n ≤ 1000) (hs : ST n h) : m_OG_fault [0, w] h (fun y1 h1 => m_Model_fault [1000, w] h1 (fun y2 h2 => y1 = y2 ∧ ST (n + 1) h2)) := by
  obtain ⟨A, P, U, X, hc, hm, hx⟩ := hs
  exact c_fault hc (m_fault hm ⟨rfl, st_same hc hm hx⟩)
theorem st_octet {k : Int} (hn : 0 ≤ n ∧ n ≤ 1000) (hs : ST n h) : m_OG_octet [0, k] h (fun y1 h1 => m_Model_octet [1000, k] h1 (fun y2 h2 => y1 = y2 ∧ ST (n + 1) h2)) := by
  obtain ⟨A, P, U, X, hc, hm, hx⟩ := hs
  exact c_octet hc hx (m_octet hm hx ⟨rfl, st_same hc hm hx⟩)
theorem st_letter {kind w k : Int} (hn : 0 ≤ n ∧ n ≤ 1000) (hs : ST n h) : m_OG_letter [0, kind, w, k] h (fun y1 h1 => m_Model_letter [1000, kind, w, k] h1 (fun y2 h2 => y1 = y2 ∧ ST (n + 1) h2)) := by
  obtain ⟨A, P, U, X, hc, hm, hx⟩ := hs
  exact c_letter hc hx (m_letter hm hx ⟨rfl, st_same hc hm hx⟩)
theorem st_counts {p w : Int} (hn : 0 ≤ n ∧ n ≤ 1000) (hs : ST n h) : m_OG_counts [0, p, w] h (fun y1 h1 => m_Model_counts [1000, p, w] h1 (fun y2 h2 => y1 = y2 ∧ ST (n + 1) h2)) := by
  obtain ⟨A, P, U, X, hc, hm, hx⟩ := hs
  refine c_counts (relC_isC hc) hx.2.1.1 hx.1.1 (fun h1 f1 => ?_)
  have m1 := st_S hm hx f1
  refine r_counts m1.2.2.1.1 hx.2.1 m1.1.1.1 hx.1.1 (fun h2 f2 => ⟨rfl, st_q0 hc m1 hx f1 (frE_Q f2) (f2 _ _ (by decide) (fun _ => by decide))⟩)
theorem st_later {g k : Int} (hn : 0 ≤ n ∧ n ≤ 1000) (hs : ST n h) : m_OG_later [0, g, k] h (fun y1 h1 => m_Model_later [1000, g, k] h1 (fun y2 h2 => y1 = y2 ∧ ST (n + 1) h2)) := by
  obtain ⟨A, P, U, X, hc, hm, hx⟩ := hs
  refine c_later (relC_isC hc) hx.2.1.1 hx.1.1 hx.1.2.2 (fun h1 f1 => ?_)
  have m1 := st_S hm hx f1
  exact r_later m1.2.2.1.1 hx.2.1 m1.1.1 hx.1.1 hx.1.2.1 m1.1.2.1 hx.1.2.2 (by omega) m1.1.2.2 (fun h2 f2 b2 => ⟨rfl, st_q hc m1 hx f1 f2 b2⟩)
theorem st_taken {k : Int} (hn : 0 ≤ n ∧ n ≤ 1000) (hs : ST n h) : m_OG_taken [0, k] h (fun y1 h1 => m_Model_taken [1000, k] h1 (fun y2 h2 => y1 = y2 ∧ ST (n + 1) h2)) := by
  obtain ⟨A, P, U, X, hc, hm, hx⟩ := hs
  refine c_taken (relC_isC hc) hx.2.1.1 hx.1.1 hx.1.2.2 (fun h1 f1 => ?_)
  have m1 := st_S hm hx f1
  exact r_taken m1.2.2.1.1 hx.2.1 m1.1.1 hx.1.1 hx.1.2.1 m1.1.2.1 hx.1.2.2 (by omega) m1.1.2.2 (fun h2 f2 b2 => ⟨rfl, st_q hc m1 hx f1 f2 b2⟩)
theorem st_filled {g : Int} (hn : 0 ≤ n ∧ n ≤ 1000) (hs : ST n h) : m_OG_filled [0, g] h (fun y1 h1 => m_Model_filled [1000, g] h1 (fun y2 h2 => y1 = y2 ∧ ST (n + 1) h2)) := by
  obtain ⟨A, P, U, X, hc, hm, hx⟩ := hs
  refine c_filled (relC_isC hc) hx.2.1.1 hx.1.1 hx.1.2.2 (fun h1 f1 => ?_)
  have m1 := st_S hm hx f1
  exact r_filled m1.2.2.1.1 hx.2.1 m1.1.1 hx.1.1 hx.1.2.1 m1.1.2.1 hx.1.2.2 (by omega) m1.1.2.2 (fun h2 f2 b2 => ⟨rfl, st_q hc m1 hx f1 f2 b2⟩)
theorem st_row {w : Int} (hw : -2147483648 ≤ w ∧ w ≤ 2147483647) (hn : 0 ≤ n ∧ n ≤ 1000) (hs : ST n h) : m_OG_row [0, w] h (fun y1 h1 => m_Model_row [1000, w] h1 (fun y2 h2 => y1 = y2 ∧ ST (n + 1) h2)) := by
  obtain ⟨A, P, U, X, hc, hm, hx⟩ := hs
  refine c_row hw (relC_isC hc) hx.2.1.1 hx.1.1 (fun h1 f1 => ?_)
  have m1 := st_S hm hx f1
  exact r_row hw m1.2.2.1.1 hx.2.1 m1.1.1.1 hx.1.1 (fun h2 f2 b2 => ⟨rfl, st_q0 hc m1 hx f1 f2 b2⟩)
theorem st_persuade {p : Int} (hn : 0 ≤ n ∧ n ≤ 1000) (hs : ST n h) : m_OG_persuade [0, p] h (fun y1 h1 => m_Model_persuade [1000, p] h1 (fun y2 h2 => y1 = y2 ∧ ST (n + 1) h2)) := by
  obtain ⟨A, P, U, X, hc, hm, hx⟩ := hs
  refine c_persuade (relC_isC hc) hx.2.1.1 hx.1.1 (fun h1 f1 => ?_)
  have m1 := st_S hm hx f1
  exact r_persuade m1.2.2.1.1 hx.2.1 m1.1.1 hx.1.1 (fun h2 f2 b2 => ⟨rfl, st_q0 hc m1 hx f1 f2 b2⟩)
theorem st_enemy {m k : Int} (hn : 0 ≤ n ∧ n ≤ 1000) (hs : ST n h) : m_OG_enemy [0, m, k] h (fun y1 h1 => m_Model_enemy [1000, m, k] h1 (fun y2 h2 => y1 = y2 ∧ ST (n + 1) h2)) := by
  obtain ⟨A, P, U, X, hc, hm, hx⟩ := hs
  refine c_enemy (relC_isC hc) hx.2.1.1 hx.1.1 hx.1.2.2 (fun h1 f1 => ?_)
  have m1 := st_S hm hx f1
  exact r_enemy m1.2.2.1.1 hx.2.1 m1.1.1 hx.1.1 hx.1.2.1 m1.1.2.1 hx.1.2.2 (by omega) m1.1.2.2 (fun h2 f2 b2 => ⟨rfl, st_q hc m1 hx f1 f2 b2⟩)
theorem st_odds {g : Int} (hn : 0 ≤ n ∧ n ≤ 1000) (hs : ST n h) : m_OG_odds [0, g] h (fun y1 h1 => m_Model_odds [1000, g] h1 (fun y2 h2 => y1 = y2 ∧ ST (n + 1) h2)) := by
  obtain ⟨A, P, U, X, hc, hm, hx⟩ := hs
  refine c_odds (relC_isC hc) hx.2.1.1 hx.1.1 (fun h1 f1 => ?_)
  have m1 := st_S hm hx f1
  exact r_odds m1.2.2.1.1 hx.2.1 m1.1.1 hx.1.1 hx.1.2.1 m1.1.2.1 hx.1.2.2 (by omega) m1.1.2.2 (fun h2 f2 b2 => ⟨rfl, st_q hc m1 hx f1 f2 b2⟩)
theorem st_wills {p : Int} (hn : 0 ≤ n ∧ n ≤ 1000) (hs : ST n h) : m_OG_wills [0, p] h (fun y1 h1 => m_Model_wills [1000, p] h1 (fun y2 h2 => y1 = y2 ∧ ST (n + 1) h2)) := by
  obtain ⟨A, P, U, X, hc, hm, hx⟩ := hs
  refine c_wills (relC_isC hc) hx.2.1.1 hx.1.1 hx.1.2.2 hc.2.2.1.2.1 hx.2.2.2.1 (fun h1 f1 => ?_)
  have m1 := st_S hm hx f1
  exact r_wills m1.2.2.1.1 hx.2.1 m1.1.1 hx.1.1 hx.1.2.1 m1.1.2.1 hx.1.2.2 (by omega) m1.1.2.2 m1.2.2.1.2.1 hx.2.2.2.1 (fun h2 f2 b2 => ⟨rfl, st_q hc m1 hx f1 f2 b2⟩)
theorem st_tells {p w : Int} (hn : 0 ≤ n ∧ n ≤ 1000) (hs : ST n h) : m_OG_tells [0, p, w] h (fun y1 h1 => m_Model_tells [1000, p, w] h1 (fun y2 h2 => y1 = y2 ∧ ST (n + 1) h2)) := by
  obtain ⟨A, P, U, X, hc, hm, hx⟩ := hs
  refine c_tells (relC_isC hc) hx.2.1.1 hx.1.1 hx.1.2.2 hc.2.2.1.2.1 hx.2.2.2.1 (fun h1 f1 => ?_)
  have m1 := st_S hm hx f1
  exact r_tells m1.2.2.1.1 hx.2.1 m1.1.1 hx.1.1 hx.1.2.1 m1.1.2.1 hx.1.2.2 (by omega) m1.1.2.2 m1.2.2.1.2.1 hx.2.2.2.1 (fun h2 f2 b2 => ⟨rfl, st_q hc m1 hx f1 f2 b2⟩)
theorem st_feed {a b c0 d e : Int} (ha : og_i32 a) (hb : og_i32 b) (hc0 : og_i32 c0) (hd : og_i32 d) (he : og_i32 e) (hn : 0 ≤ n ∧ n ≤ 1000) (hs : ST n h) : m_OG_feed [0, a, b, c0, d, e] h (fun y1 h1 => m_Model_feed [1000, a, b, c0, d, e] h1 (fun y2 h2 => y1 = y2 ∧ ST (n + 1) h2)) := by
  obtain ⟨A, P, U, X, hc, hm, hx⟩ := hs
  refine c_feed ha hb hc0 hd he (by omega) hc hx (fun c h1 r1 => m_feed (by omega) (st_lo r1 hm hx) hx (fun _ h2 r2 => ⟨rfl, st_fin r1 r2 (by omega) (okX_rf hx)⟩) (fun z => absurd z (by first | exact fun y => y c | simp [c]))) (fun c h1 r1 => m_feed (by omega) (st_lo r1 hm hx) hx (fun z => absurd z (by first | exact c | exact fun y => y c | simp [c])) (fun _ h2 r2 => ⟨rfl, st_fin r1 r2 (by omega) (okX_mono (okX_feed c hx) (by omega))⟩))
theorem st_end {v : Int} (hn : 0 ≤ n ∧ n ≤ 1000) (hs : ST n h) : m_OG_end [0, v] h (fun y1 h1 => m_Model_end [1000, v] h1 (fun y2 h2 => y1 = y2 ∧ ST (n + 1) h2)) := by
  obtain ⟨A, P, U, X, hc, hm, hx⟩ := hs
  refine c_end (by omega) hc hx (fun c h1 r1 => m_end (by omega) (st_lo r1 hm hx) hx (fun _ h2 r2 => ⟨rfl, st_fin r1 r2 (by omega) (okX_rf hx)⟩) (fun z => absurd z (by first | exact fun y => y c | simp [c]))) (fun c h1 r1 => m_end (by omega) (st_lo r1 hm hx) hx (fun z => absurd z (by first | exact c | exact fun y => y c | simp [c])) (fun _ h2 r2 => ⟨rfl, st_fin r1 r2 (by omega) (okX_mono (okX_end (by omega) hx) (by omega))⟩))
theorem st_see (hn : 0 ≤ n ∧ n ≤ 1000) (hs : ST n h) : m_OG_see [0] h (fun y1 h1 => m_Model_see [1000] h1 (fun y2 h2 => y1 = y2 ∧ ST (n + 1) h2)) := by
  obtain ⟨A, P, U, X, hc, hm, hx⟩ := hs
  refine c_see (by omega) hc hx (fun c h1 r1 => m_see (by omega) (st_lo r1 hm hx) hx (fun _ h2 r2 => ⟨rfl, st_fin r1 r2 (by omega) (okX_rf (okX_tape0 hx))⟩) (fun z => absurd z (by first | exact fun y => y c | simp [c]))) (fun c h1 r1 => m_see (by omega) (st_lo r1 hm hx) hx (fun z => absurd z (by first | exact c | exact fun y => y c | simp [c])) (fun _ h2 r2 => ⟨rfl, st_fin r1 r2 (by omega) (okX_mono (okX_see hx c) (by omega))⟩))
theorem st_dig {g : Int} (hn : 0 ≤ n ∧ n ≤ 1000) (hs : ST n h) : m_OG_dig [0, g] h (fun y1 h1 => m_Model_dig [1000, g] h1 (fun y2 h2 => y1 = y2 ∧ ST (n + 1) h2)) := by
  obtain ⟨A, P, U, X, hc, hm, hx⟩ := hs
  refine c_dig (by omega) hc hx (fun c h1 r1 => m_dig (by omega) (st_lo r1 hm hx) hx (fun _ h2 r2 => ⟨rfl, st_fin r1 r2 (by omega) (okX_rf hx)⟩) (fun z => absurd z (by first | exact fun y => y c | simp [c]))) (fun c h1 r1 => m_dig (by omega) (st_lo r1 hm hx) hx (fun z => absurd z (by first | exact c | exact fun y => y c | simp [c])) (fun _ h2 r2 => ⟨rfl, st_fin r1 r2 (by omega) (okX_mono (okX_dig hx c) (by omega))⟩))
theorem st_fill {g p : Int} (hn : 0 ≤ n ∧ n ≤ 1000) (hs : ST n h) : m_OG_fill [0, g, p] h (fun y1 h1 => m_Model_fill [1000, g, p] h1 (fun y2 h2 => y1 = y2 ∧ ST (n + 1) h2)) := by
  obtain ⟨A, P, U, X, hc, hm, hx⟩ := hs
  refine c_fill (by omega) hc hx (fun c h1 r1 => m_fill (by omega) (st_lo r1 hm hx) hx (fun _ h2 r2 => ⟨rfl, st_fin r1 r2 (by omega) (okX_rf hx)⟩) (fun z => absurd z (by first | exact fun y => y c | simp [c]))) (fun c h1 r1 => m_fill (by omega) (st_lo r1 hm hx) hx (fun z => absurd z (by first | exact c | exact fun y => y c | simp [c])) (fun _ h2 r2 => ⟨rfl, st_fin r1 r2 (by omega) (okX_mono (okX_fill hx c) (by omega))⟩))
theorem st_talk {p w : Int} (hn : 0 ≤ n ∧ n ≤ 1000) (hs : ST n h) : m_OG_talk [0, p, w] h (fun y1 h1 => m_Model_talk [1000, p, w] h1 (fun y2 h2 => y1 = y2 ∧ ST (n + 1) h2)) := by
  obtain ⟨A, P, U, X, hc, hm, hx⟩ := hs
  refine c_talk (by omega) hc hx (fun c h1 r1 => m_talk (by omega) (st_lo r1 hm hx) hx (fun _ h2 r2 => ⟨rfl, st_fin r1 r2 (by omega) (okX_rf hx)⟩) (fun z => absurd z (by first | exact fun y => y c | simp [c]))) (fun c h1 r1 => m_talk (by omega) (st_lo r1 hm hx) hx (fun z => absurd z (by first | exact c | exact fun y => y c | simp [c])) (fun _ h2 r2 => ⟨rfl, st_fin r1 r2 (by omega) (okX_mono (okX_talk hx c) (by omega))⟩))
theorem st_months {m : Int} (hn : 0 ≤ n ∧ n ≤ 1000) (hs : ST n h) : m_OG_months [0, m] h (fun y1 h1 => m_Model_months [1000, m] h1 (fun y2 h2 => y1 = y2 ∧ ST (n + 1) h2)) := by
  obtain ⟨A, P, U, X, hc, hm, hx⟩ := hs
  refine c_months (by omega) hc hx (fun c h1 r1 => m_months (by omega) (by omega) (st_lo r1 hm hx) hx (fun _ h2 r2 => ⟨rfl, st_fin r1 r2 (by omega) (okX_rf hx)⟩) (fun z => absurd z (by first | exact fun y => y c | simp [c]))) (fun c h1 r1 => m_months (by omega) (by omega) (st_lo r1 hm hx) hx (fun z => absurd z (by first | exact c | exact fun y => y c | simp [c])) (fun _ h2 r2 => ⟨rfl, st_fin r1 r2 (by omega) (okX_mono (okX_months hx c) (by omega))⟩))
theorem st_chance {m : Int} (hn : 0 ≤ n ∧ n ≤ 1000) (hs : ST n h) : m_OG_chance [0, m] h (fun y1 h1 => m_Model_chance [1000, m] h1 (fun y2 h2 => y1 = y2 ∧ ST (n + 1) h2)) := by
  obtain ⟨A, P, U, X, hc, hm, hx⟩ := hs
  refine c_chance (by omega) hc hx (fun c h1 r1 => m_chance (by omega) (by omega) (st_lo r1 hm hx) hx (fun _ h2 r2 => ⟨rfl, st_fin r1 r2 (by omega) (okX_rf hx)⟩) (fun z => absurd z (by first | exact fun y => y c | simp [c]))) (fun c h1 r1 => m_chance (by omega) (by omega) (st_lo r1 hm hx) hx (fun z => absurd z (by first | exact c | exact fun y => y c | simp [c])) (fun _ h2 r2 => ⟨rfl, st_fin r1 r2 (by omega) (okX_mono (okX_chance hx c) (by omega))⟩))
theorem st_undo (hn : 0 ≤ n ∧ n ≤ 1000) (hs : ST n h) : m_OG_undo [0] h (fun y1 h1 => m_Model_undo [1000] h1 (fun y2 h2 => y1 = y2 ∧ ST (n + 1) h2)) := by
  obtain ⟨A, P, U, X, hc, hm, hx⟩ := hs
  refine c_undo (by omega) hc hx (fun c h1 r1 => m_undo (by omega) (st_lo r1 hm hx) hx (fun _ h2 r2 => ⟨rfl, st_fin r1 r2 (by omega) (okX_rf hx)⟩) (fun z => absurd z (by first | exact fun y => y c | simp [c]))) (fun c h1 r1 => m_undo (by omega) (st_lo r1 hm hx) hx (fun z => absurd z (by first | exact c | exact fun y => y c | simp [c])) (fun _ h2 r2 => ⟨rfl, st_fin r1 r2 (by omega) (okX_mono (okX_undo hx c) (by omega))⟩))
theorem st_seed {s : Int} (hs2 : s ≤ 2147483647) (hn : 0 ≤ n ∧ n ≤ 1000) (hs : ST n h) : m_OG_seed [0, s] h (fun y1 h1 => m_Model_seed [1000, s] h1 (fun y2 h2 => y1 = y2 ∧ ST (n + 1) h2)) := by
  obtain ⟨A, P, U, X, hc, hm, hx⟩ := hs
  refine c_seed (by omega) hc hx (fun c h1 r1 => m_seed (by omega) (st_lo r1 hm hx) hx (fun _ h2 r2 => ⟨rfl, st_fin r1 r2 (by omega) (okX_rf hx)⟩) (fun z => absurd z (by first | exact fun y => y c | simp [c]))) (fun c h1 r1 => m_seed (by omega) (st_lo r1 hm hx) hx (fun z => absurd z (by first | exact c | exact fun y => y c | simp [c])) (fun _ h2 r2 => ⟨rfl, st_fin r1 r2 (by omega) (okX_mono (okX_seed (by omega) hx) (by omega))⟩))
theorem st_on (hn : 0 ≤ n ∧ n ≤ 1000) (hs : ST n h) : m_OG_on [0] h (fun y1 h1 => m_Model_on [1000] h1 (fun y2 h2 => y1 = y2 ∧ ST (n + 1) h2)) := by
  obtain ⟨A, P, U, X, hc, hm, hx⟩ := hs
  refine c_on (by omega) hc hx (fun c h1 r1 => m_on (by omega) (st_lo r1 hm hx) hx (fun _ h2 r2 => ⟨rfl, st_fin r1 r2 (by omega) (okX_rf (okX_tape0 hx))⟩) (fun z => absurd z (by first | exact fun y => y c | simp [c]))) (fun c h1 r1 => m_on (by omega) (st_lo r1 hm hx) hx (fun z => absurd z (by first | exact c | exact fun y => y c | simp [c])) (fun _ h2 r2 => ⟨rfl, st_fin r1 r2 (by omega) (okX_mono (okX_on hx c) (by omega))⟩))
theorem st_image (hn : 0 ≤ n ∧ n ≤ 1000) (hs : ST n h) : m_OG_image [0] h (fun y1 h1 => m_Model_image [1000] h1 (fun y2 h2 => y1 = y2 ∧ ST (n + 1) h2)) := by
  obtain ⟨A, P, U, X, hc, hm, hx⟩ := hs
  exact c_image hc hx (fun h1 r1 => m_image (st_lo r1 hm hx) hx (fun h2 r2 => ⟨rfl, st_fin r1 r2 (by omega) (okX_mono (okX_im hx) (by omega))⟩))
theorem st_parish (hn : 0 ≤ n ∧ n ≤ 1000) (hs : ST n h) : m_OG_parish [0] h (fun y1 h1 => m_Model_parish [1000] h1 (fun y2 h2 => y1 = y2 ∧ ST (n + 1) h2)) := by
  obtain ⟨A, P, U, X, hc, hm, hx⟩ := hs
  refine c_parish (by omega) hc hx (fun z e h1 r1 => m_parish (by omega) (st_lo r1 hm hx) hx (fun z' e' h2 r2 => ?_) (fun w e' => by rw [e] at e'; cases e')) (fun w e h1 r1 => m_parish (by omega) (st_lo r1 hm hx) hx (fun z' e' => by rw [e] at e'; cases e') (fun w' e' h2 r2 => ?_))
  · rw [e] at e'
    have e' := Sum.inr.inj e'
    subst e'
    exact ⟨rfl, st_fin r1 r2 (by omega) (okX_rf (okX_ft hx))⟩
  · have e2 := e'
    rw [e] at e2
    have e2 := Sum.inl.inj e2
    subst e2
    exact ⟨rfl, st_fin r1 r2 (by omega) (okX_mono (okX_par hx e) (by omega))⟩
theorem st_ask (hn : 0 ≤ n ∧ n ≤ 1000) (hs : ST n h) : m_OG_ask [0] h (fun y1 h1 => m_Model_ask [1000] h1 (fun y2 h2 => y1 = y2 ∧ ST (n + 1) h2)) := by
  obtain ⟨A, P, U, X, hc, hm, hx⟩ := hs
  refine c_ask hc hx (fun z e h1 r1 => m_ask (st_lo r1 hm hx) hx (fun z' e' h2 r2 => ?_) (fun k c e' => by rw [e] at e'; cases e')) (fun k c e h1 r1 => m_ask (st_lo r1 hm hx) hx (fun z' e' => by rw [e] at e'; cases e') (fun k' c' e' h2 r2 => ?_))
  · rw [e] at e'
    have e' := Sum.inr.inj e'
    subst e'
    exact ⟨rfl, st_fin r1 r2 (by omega) (okX_mono (okX_ft hx) (by omega))⟩
  · rw [e] at e'
    have e' := Sum.inl.inj e'
    rw [Prod.mk.injEq] at e'
    rw [e'.1, e'.2]
    exact ⟨rfl, st_fin r1 r2 (by omega) (okX_mono (okX_ft hx) (by omega))⟩
end
end
