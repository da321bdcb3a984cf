/-! ===== a new object; all steps ===== -/
theorem hE_18 : ∀ i, i < 36 → zI hE 18 i = 0 ∧ zI hE 64 i = 0 := by decide +kernel
theorem hE_21 : ∀ b, b < 6 → zI hE 21 b = zI hE 65 b := by decide +kernel
theorem hE_19 : ∀ j, j < 20 → zI hE 19 j = zI hE 66 j ∧ zI hE 20 j = zI hE 67 j := by decide +kernel
theorem hE_f : zI hE 0 1 = nI 0 ∧ zI hE 58 19 = nI 0 ∧ zI hE 0 2 = zI hE 58 20 ∧ (zI hE 2 4 = nI 0 ∧ zI hE 58 0 = nI 0) ∧ (zI hE 2 7 = nI 0 ∧ zI hE 58 7 = nI 0) ∧ (zI hE 2 6 = nI 0 ∧ zI hE 58 5 = nI 0) ∧ (zI hE 2 8 = nI 0 ∧ zI hE 63 0 = nI 0) ∧ (zI hE 2 9 = nI 0 ∧ zI hE 63 1 = nI 0) ∧ (zI hE 2 10 = nI 0 ∧ zI hE 63 2 = nI 0) ∧ zI hE 2 5 = zI hE 58 6 ∧ (zI hE 2 11 = nI 10 ∧ zI hE 58 9 = nI 10) ∧ (zI hE 2 12 = nI 100 ∧ zI hE 58 10 = nI 100) := by decide +kernel
theorem hE_g : zI hE 17 4 = zI hE 58 13 ∧ zI hE 17 5 = zI hE 58 16 ∧ zI hE 17 6 = zI hE 58 17 ∧ zI hE 58 13 = nI 0 ∧ zI hE 58 16 = -1 ∧ (0 : Int32) ≤ zI hE 58 17 ∧ zI hE 34 3 = nI 0 ∧ zI hE 58 50 = nI 0 ∧ zI hE 33 0 = 0 ∧ zI hE 86 0 = 0 ∧ zI hE 33 1 = 0 ∧ zI hE 86 1 = 0 := by decide +kernel
theorem Rel_E : Rel hE (2, 7, 16, 48, 53) := by
  obtain ⟨a1, a2, a3, a4, a5, a6, a7, a8, a9, a10, a11, a12⟩ := hE_f
  obtain ⟨b1, b2', b3, b4, b5, b6, b7, b8, b9, b10, b11, b12⟩ := hE_g
  refine ⟨Sh_E, ⟨Or.inl ⟨rfl, rfl⟩, Or.inr rfl⟩, ⟨0, by omega, a1, a2, fun j hj => absurd hj (by omega)⟩, a3, 0, 0, 0, 0, 0, 0, ?_, ?_, ?_, Or.inl ⟨b9, b10⟩, Or.inl ⟨b11, b12⟩⟩
  · exact ⟨⟨by omega, by omega, by omega, by omega, by omega, by omega, fun h => absurd h (by omega)⟩, a4, a5, a6, a7, a8, a9, a10, ⟨10, by omega, a11⟩, ⟨100, by omega, a12⟩, fun k hk => absurd hk (by omega), fun m _ k hk => absurd hk (by omega)⟩
  · exact ⟨⟨fun i hi => by rw [(hE_18 i hi).1, (hE_18 i hi).2], hE_21, hE_19, b1, b2', b3⟩, fun i hi => ⟨0, by decide, (hE_18 i hi).2⟩, fun b hb => (hE_18 (7 * b) (by omega)).2, ⟨0, by omega, b4⟩, Or.inl b5, b6⟩
  · exact ⟨0, by omega, b7, b8, fun i hi => absurd hi (by omega)⟩
theorem steps_all : StepsR 1000 :=
  ⟨fun n b => st_feed (by decide) n b, st_island (by decide), st_fault 1000, fun a => st_told 1000 a, fun a b => st_mark 1000 a b, fun a b c => st_map 1000 a b c, fun a b => st_leads (by decide) a b, fun a b => st_knows 1000 a b, fun a b c => st_show (by decide) a b c, fun a b c d => st_trade a b c d, fun a b c => st_dig a b c, fun a => st_purse 1000 a, fun a b => st_may (by decide) a b, fun a b => st_sure (by decide) a b, fun a b c => st_area (by decide) a b c, fun a b => st_best (by decide) a b, fun a b c => st_corner (by decide) a b c, fun a b => st_bestCorner (by decide) a b, fun a => st_spades (by decide) a, fun a => st_found (by decide) a, fun a b c hc => st_say 1000 a b c hc, st_forget 1000, fun a b => st_saying (by decide) a b, st_loudest (by decide), fun a => st_hunt (by decide) a, fun a => st_seed 1000 a, fun a => st_keep (by decide) a, fun a => st_goBack (by decide) a⟩
theorem pure_law (L : Nat) (sx : Nat → Int32) (hL : L ≤ 320) : ∃ f, b_L_law_0 f L sx h00 = some () := ⟨1000, law_all hL steps_all Rel_E⟩
