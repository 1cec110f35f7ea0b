/-! operations that are done: class and model answer alike -/
theorem op_0 (v1 v2 v3 v4 v5 : Int32) (μ : MM) : Rel μ → Glaw_0 v1 v2 v3 v4 v5 μ Rel := by
  rintro ⟨A, X, W, hV, hW, hC, hM⟩
  have b12 : A 358 12 < 97 := hV.b 358 12 (by unfold dom; decide)
  have b8 : A 358 8 < 25 := hV.b 358 8 (by unfold dom; decide)
  have b3 : A 358 3 < 13 := hV.b 358 3 (by unfold dom; decide)
  have b28 : A 358 28 < 61 := hV.b 358 28 (by unfold dom; decide)
  refine c_name hV.b hC (fun a b c ha hb hc e1 e2 e3 hn μ1 h1 f1 => ?_) (fun q => ?_)
  · subst e1 e2 e3
    refine m_name hV.b (hM.fc f1) (fun a' b' c' ha' hb' hc' e1' e2' e3' hn' μ2 h2 f2 => ?_) (fun q => absurd ⟨⟨a, ha, rfl⟩, ⟨b, hb, rfl⟩, ⟨c, hc, rfl⟩, hn⟩ q)
    obtain rfl := qN_inj e1' (by omega) (by omega)
    obtain rfl := qN_inj e2' (by omega) (by omega)
    obtain rfl := qN_inj e3' (by omega) (by omega)
    exact ⟨fun _ => ⟨_, X, _, hV.name ha hb hc hn, hW, h1.fm f2, h2⟩, fun q => q rfl⟩
  · refine m_name hV.b hM (fun a b c ha hb hc e1 e2 e3 hn μ2 h2 f2 => ?_) (fun _ μ2 h2 f2 => ?_)
    · subst e1 e2 e3
      exact absurd ⟨⟨a, ha, rfl⟩, ⟨b, hb, rfl⟩, ⟨c, hc, rfl⟩, hn⟩ q
    · exact ⟨fun _ => ⟨A, X, W, hV, hW, hC.fm f2, h2⟩, fun q => q rfl⟩

theorem op_1 (v1 v2 v3 v4 v5 : Int32) (μ : MM) : Rel μ → Glaw_1 v1 v2 v3 v4 v5 μ Rel := by
  rintro ⟨A, X, W, hV, hW, hC, hM⟩
  have b12 : A 358 12 < 97 := hV.b 358 12 (by unfold dom; decide)
  have b8 : A 358 8 < 25 := hV.b 358 8 (by unfold dom; decide)
  have b3 : A 358 3 < 13 := hV.b 358 3 (by unfold dom; decide)
  have b28 : A 358 28 < 61 := hV.b 358 28 (by unfold dom; decide)
  refine c_house hV.b hC (fun a b c ha hb hc e1 e2 e3 hn μ1 h1 f1 => ?_) (fun q => ?_)
  · subst e1 e2 e3
    refine m_house hV.b (hM.fc f1) (fun a' b' c' ha' hb' hc' e1' e2' e3' hn' μ2 h2 f2 => ?_) (fun q => absurd ⟨⟨a, ha, rfl⟩, ⟨b, hb, rfl⟩, ⟨c, hc, rfl⟩, hn⟩ q)
    obtain rfl := qN_inj e1' (by omega) (by omega)
    obtain rfl := qN_inj e2' (by omega) (by omega)
    obtain rfl := qN_inj e3' (by omega) (by omega)
    exact ⟨fun _ => ⟨_, X, _, hV.house ha hb hc hn, hW, h1.fm f2, h2⟩, fun q => q rfl⟩
  · refine m_house hV.b hM (fun a b c ha hb hc e1 e2 e3 hn μ2 h2 f2 => ?_) (fun _ μ2 h2 f2 => ?_)
    · subst e1 e2 e3
      exact absurd ⟨⟨a, ha, rfl⟩, ⟨b, hb, rfl⟩, ⟨c, hc, rfl⟩, hn⟩ q
    · exact ⟨fun _ => ⟨A, X, W, hV, hW, hC.fm f2, h2⟩, fun q => q rfl⟩

theorem op_2 (v1 v2 v3 v4 v5 : Int32) (μ : MM) : Rel μ → Glaw_2 v1 v2 v3 v4 v5 μ Rel := by
  rintro ⟨A, X, W, hV, hW, hC, hM⟩
  have b12 : A 358 12 < 97 := hV.b 358 12 (by unfold dom; decide)
  have b8 : A 358 8 < 25 := hV.b 358 8 (by unfold dom; decide)
  have b3 : A 358 3 < 13 := hV.b 358 3 (by unfold dom; decide)
  have b28 : A 358 28 < 61 := hV.b 358 28 (by unfold dom; decide)
  refine c_letter hV.b hC (fun a b c e d ha hb hc he hd e1 e2 e3 e4 e5 hn h4 μ1 h1 f1 => ?_) (fun q => ?_)
  · subst e1 e2 e3 e4 e5
    refine m_letter hV.b hV.2.2.2.2.2.2.2.2 (hM.fc f1) (fun a' b' c' e' d' ha' hb' hc' he' hd' e1' e2' e3' e4' e5' hn' h4' μ2 h2 f2 => ?_) (fun q => absurd ⟨⟨a, ha, rfl⟩, ⟨b, hb, rfl⟩, ⟨c, hc, rfl⟩, ⟨e, he, rfl⟩, ⟨d, hd, rfl⟩, hn, by rw [cnt_q hV.b (by omega) (by omega)]; exact h4⟩ q)
    obtain rfl := qN_inj e1' (by omega) (by omega)
    obtain rfl := qN_inj e2' (by omega) (by omega)
    obtain rfl := qN_inj e3' (by omega) (by omega)
    obtain rfl := qN_inj e4' (by omega) (by omega)
    obtain rfl := qN_inj e5' (by omega) (by omega)
    exact ⟨fun _ => ⟨_, X, _, hV.letter ha hb hc he hd hn h4, hW, h1.fm f2, h2⟩, fun q => q rfl⟩
  · refine m_letter hV.b hV.2.2.2.2.2.2.2.2 hM (fun a b c e d ha hb hc he hd e1 e2 e3 e4 e5 hn h4 μ2 h2 f2 => ?_) (fun _ μ2 h2 f2 => ?_)
    · subst e1 e2 e3 e4 e5
      exact absurd ⟨⟨a, ha, rfl⟩, ⟨b, hb, rfl⟩, ⟨c, hc, rfl⟩, ⟨e, he, rfl⟩, ⟨d, hd, rfl⟩, hn, by rw [cnt_q hV.b (by omega) (by omega)]; exact h4⟩ q
    · exact ⟨fun _ => ⟨A, X, W, hV, hW, hC.fm f2, h2⟩, fun q => q rfl⟩

theorem op_6 (v1 v2 v3 v4 v5 : Int32) (μ : MM) : Rel μ → Glaw_6 v1 v2 v3 v4 v5 μ Rel := by
  rintro ⟨A, X, W, hV, hW, hC, hM⟩
  have b12 : A 358 12 < 97 := hV.b 358 12 (by unfold dom; decide)
  have b8 : A 358 8 < 25 := hV.b 358 8 (by unfold dom; decide)
  have b3 : A 358 3 < 13 := hV.b 358 3 (by unfold dom; decide)
  have b28 : A 358 28 < 61 := hV.b 358 28 (by unfold dom; decide)
  refine c_end hV.b hC (fun a ha e1 μ1 h1 f1 => ?_) (fun q => ?_)
  · subst e1
    refine m_end hV.b (hM.fc f1) (fun a' ha' e1' μ2 h2 f2 => ?_) (fun q => absurd ⟨a, by omega, rfl⟩ q)
    obtain rfl := qN_inj e1' (by omega) (by omega)
    exact ⟨fun _ => ⟨_, X, _, hV.end' ha, hW, h1.fm f2, h2⟩, fun q => q rfl⟩
  · refine m_end hV.b hM (fun a ha e1 μ2 h2 f2 => ?_) (fun _ μ2 h2 f2 => ?_)
    · subst e1
      exact absurd ⟨a, by omega, rfl⟩ q
    · exact ⟨fun _ => ⟨A, X, W, hV, hW, hC.fm f2, h2⟩, fun q => q rfl⟩

theorem op_13 (v1 v2 v3 v4 v5 : Int32) (μ : MM) : Rel μ → Glaw_13 v1 v2 v3 v4 v5 μ Rel := by
  rintro ⟨A, X, W, hV, hW, hC, hM⟩
  have b12 : A 358 12 < 97 := hV.b 358 12 (by unfold dom; decide)
  have b8 : A 358 8 < 25 := hV.b 358 8 (by unfold dom; decide)
  have b3 : A 358 3 < 13 := hV.b 358 3 (by unfold dom; decide)
  have b28 : A 358 28 < 61 := hV.b 358 28 (by unfold dom; decide)
  refine c_after hV.b hC (fun a b ha h1a hb e1 e2 μ1 h1 f1 => ?_) (fun q => ?_)
  · subst e1 e2
    refine m_after hV.b (hM.fc f1) (fun a' b' ha' h1a' hb' e1' e2' μ2 h2 f2 => ?_) (fun q => absurd ⟨⟨a, ha, rfl⟩, ⟨a, ⟨by omega, h1a⟩, rfl⟩, ⟨b, hb, rfl⟩⟩ q)
    obtain rfl := qN_inj e1' (by omega) (by omega)
    obtain rfl := qN_inj e2' (by omega) (by omega)
    exact ⟨fun _ => ⟨_, X, _, hV.after h1a hb, hW, h1.fm f2, h2⟩, fun q => q rfl⟩
  · refine m_after hV.b hM (fun a b ha h1a hb e1 e2 μ2 h2 f2 => ?_) (fun _ μ2 h2 f2 => ?_)
    · subst e1 e2
      exact absurd ⟨⟨a, ha, rfl⟩, ⟨a, ⟨by omega, h1a⟩, rfl⟩, ⟨b, hb, rfl⟩⟩ q
    · exact ⟨fun _ => ⟨A, X, W, hV, hW, hC.fm f2, h2⟩, fun q => q rfl⟩

theorem op_25 (v1 v2 v3 v4 v5 : Int32) (μ : MM) : Rel μ → Glaw_25 v1 v2 v3 v4 v5 μ Rel := by
  rintro ⟨A, X, W, hV, hW, hC, hM⟩
  have b12 : A 358 12 < 97 := hV.b 358 12 (by unfold dom; decide)
  have b8 : A 358 8 < 25 := hV.b 358 8 (by unfold dom; decide)
  have b3 : A 358 3 < 13 := hV.b 358 3 (by unfold dom; decide)
  have b28 : A 358 28 < 61 := hV.b 358 28 (by unfold dom; decide)
  refine c_kind hV.b hC (fun a b c ha hb hc e1 e2 e3 μ1 h1 f1 => ?_) (fun q => ?_)
  · subst e1 e2 e3
    refine m_kind hV.b (hM.fc f1) (fun a' b' c' ha' hb' hc' e1' e2' e3' μ2 h2 f2 => ?_) (fun q => absurd ⟨⟨a, ha, rfl⟩, ⟨b, hb, rfl⟩, ⟨c, hc, rfl⟩⟩ q)
    obtain rfl := qN_inj e1' (by omega) (by omega)
    obtain rfl := qN_inj e2' (by omega) (by omega)
    obtain rfl := qN_inj e3' (by omega) (by omega)
    exact ⟨fun _ => ⟨_, X, _, hV.kind hb hc, hW, h1.fm f2, h2⟩, fun q => q rfl⟩
  · refine m_kind hV.b hM (fun a b c ha hb hc e1 e2 e3 μ2 h2 f2 => ?_) (fun _ μ2 h2 f2 => ?_)
    · subst e1 e2 e3
      exact absurd ⟨⟨a, ha, rfl⟩, ⟨b, hb, rfl⟩, ⟨c, hc, rfl⟩⟩ q
    · exact ⟨fun _ => ⟨A, X, W, hV, hW, hC.fm f2, h2⟩, fun q => q rfl⟩

theorem op_26 (v1 v2 v3 v4 v5 : Int32) (μ : MM) : Rel μ → Glaw_26 v1 v2 v3 v4 v5 μ Rel := by
  rintro ⟨A, X, W, hV, hW, hC, hM⟩
  have b12 : A 358 12 < 97 := hV.b 358 12 (by unfold dom; decide)
  have b8 : A 358 8 < 25 := hV.b 358 8 (by unfold dom; decide)
  have b3 : A 358 3 < 13 := hV.b 358 3 (by unfold dom; decide)
  have b28 : A 358 28 < 61 := hV.b 358 28 (by unfold dom; decide)
  refine c_parts hV.b hC (fun a b ha hb e1 e2 hz μ1 h1 f1 => ?_) (fun q => ?_)
  · subst e1 e2
    refine m_parts hV.b (hM.fc f1) (fun a' b' ha' hb' e1' e2' hz' μ2 h2 f2 => ?_) (fun q => absurd ⟨⟨a, ha, rfl⟩, ⟨b, hb, rfl⟩, ⟨a, b, rfl, rfl, ha, hb, hz⟩⟩ q)
    obtain rfl := qN_inj e1' (by omega) (by omega)
    obtain rfl := qN_inj e2' (by omega) (by omega)
    exact ⟨fun _ => ⟨_, X, _, hV.parts ha hb hz, hW, h1.fm f2, h2⟩, fun q => q rfl⟩
  · refine m_parts hV.b hM (fun a b ha hb e1 e2 hz μ2 h2 f2 => ?_) (fun _ μ2 h2 f2 => ?_)
    · subst e1 e2
      exact absurd ⟨⟨a, ha, rfl⟩, ⟨b, hb, rfl⟩, ⟨a, b, rfl, rfl, ha, hb, hz⟩⟩ q
    · exact ⟨fun _ => ⟨A, X, W, hV, hW, hC.fm f2, h2⟩, fun q => q rfl⟩

theorem op_38 (v1 v2 v3 v4 v5 : Int32) (μ : MM) : Rel μ → Glaw_38 v1 v2 v3 v4 v5 μ Rel := by
  rintro ⟨A, X, W, hV, hW, hC, hM⟩
  have b12 : A 358 12 < 97 := hV.b 358 12 (by unfold dom; decide)
  have b8 : A 358 8 < 25 := hV.b 358 8 (by unfold dom; decide)
  have b3 : A 358 3 < 13 := hV.b 358 3 (by unfold dom; decide)
  have b28 : A 358 28 < 61 := hV.b 358 28 (by unfold dom; decide)
  refine c_asked hV.b hC (fun a b c ha hb hc hne e1 e2 e3 hn μ1 h1 f1 => ?_) (fun q => ?_)
  · subst e1 e2 e3
    refine m_asked hV.b (hM.fc f1) (fun a' b' c' ha' hb' hc' hne' e1' e2' e3' hn' μ2 h2 f2 => ?_) (fun q => absurd ⟨⟨a, ha, rfl⟩, ⟨b, hb, rfl⟩, ⟨c, hc, rfl⟩, fun r => hne (qN_inj r (by omega) (by omega)), hn⟩ q)
    obtain rfl := qN_inj e1' (by omega) (by omega)
    obtain rfl := qN_inj e2' (by omega) (by omega)
    obtain rfl := qN_inj e3' (by omega) (by omega)
    exact ⟨fun _ => ⟨_, X, _, hV.asked ha hb hc hn, hW, h1.fm f2, h2⟩, fun q => q rfl⟩
  · refine m_asked hV.b hM (fun a b c ha hb hc hne e1 e2 e3 hn μ2 h2 f2 => ?_) (fun _ μ2 h2 f2 => ?_)
    · subst e1 e2 e3
      exact absurd ⟨⟨a, ha, rfl⟩, ⟨b, hb, rfl⟩, ⟨c, hc, rfl⟩, fun r => hne (qN_inj r (by omega) (by omega)), hn⟩ q
    · exact ⟨fun _ => ⟨A, X, W, hV, hW, hC.fm f2, h2⟩, fun q => q rfl⟩

theorem op_44 (v1 v2 v3 v4 v5 : Int32) (μ : MM) : Rel μ → Glaw_44 v1 v2 v3 v4 v5 μ Rel := by
  rintro ⟨A, X, W, hV, hW, hC, hM⟩
  have b12 : A 358 12 < 97 := hV.b 358 12 (by unfold dom; decide)
  have b8 : A 358 8 < 25 := hV.b 358 8 (by unfold dom; decide)
  have b3 : A 358 3 < 13 := hV.b 358 3 (by unfold dom; decide)
  have b28 : A 358 28 < 61 := hV.b 358 28 (by unfold dom; decide)
  refine c_keep hV hC (fun a ha e1 μ1 h1 f1 => ?_) (fun q => ?_)
  · subst e1
    refine m_keep hV (hM.fc f1) (fun a' ha' e1' μ2 h2 f2 => ?_) (fun q => absurd ⟨a, ha, rfl⟩ q)
    obtain rfl := qN_inj e1' (by omega) (by omega)
    exact ⟨fun _ => ⟨_, X, _, hV.keep ha _ (by omega), hW, h1.fm f2, h2⟩, fun q => q rfl⟩
  · refine m_keep hV hM (fun a ha e1 μ2 h2 f2 => ?_) (fun _ μ2 h2 f2 => ?_)
    · subst e1
      exact absurd ⟨a, ha, rfl⟩ q
    · exact ⟨fun _ => ⟨A, X, W, hV, hW, hC.fm f2, h2⟩, fun q => q rfl⟩

theorem op_45 (v1 v2 v3 v4 v5 : Int32) (μ : MM) : Rel μ → Glaw_45 v1 v2 v3 v4 v5 μ Rel := by
  rintro ⟨A, X, W, hV, hW, hC, hM⟩
  have b12 : A 358 12 < 97 := hV.b 358 12 (by unfold dom; decide)
  have b8 : A 358 8 < 25 := hV.b 358 8 (by unfold dom; decide)
  have b3 : A 358 3 < 13 := hV.b 358 3 (by unfold dom; decide)
  have b28 : A 358 28 < 61 := hV.b 358 28 (by unfold dom; decide)
  refine c_again hV hC (fun a ha e1 ok μ1 h1 f1 => ?_) (fun q => ?_)
  · subst e1
    refine m_again hV (hM.fc f1) (fun a' ha' e1' ok' μ2 h2 f2 => ?_) (fun q => absurd ⟨a, ha, rfl, ok⟩ q)
    obtain rfl := qN_inj e1' (by omega) (by omega)
    exact ⟨fun _ => ⟨_, X, _, hV.again ha ok, hW, h1.fm f2, h2⟩, fun q => q rfl⟩
  · refine m_again hV hM (fun a ha e1 ok μ2 h2 f2 => ?_) (fun _ μ2 h2 f2 => ?_)
    · subst e1
      exact absurd ⟨a, ha, rfl, ok⟩ q
    · exact ⟨fun _ => ⟨A, X, W, hV, hW, hC.fm f2, h2⟩, fun q => q rfl⟩

theorem op_5 (v1 v2 v3 v4 v5 : Int32) (μ : MM) : Rel μ → Glaw_5 v1 v2 v3 v4 v5 μ Rel := by
  rintro ⟨A, X, W, hV, hW, hC, hM⟩
  have b12 : A 358 12 < 97 := hV.b 358 12 (by unfold dom; decide)
  have b8 : A 358 8 < 25 := hV.b 358 8 (by unfold dom; decide)
  have b3 : A 358 3 < 13 := hV.b 358 3 (by unfold dom; decide)
  have b28 : A 358 28 < 61 := hV.b 358 28 (by unfold dom; decide)
  refine c_sign hV hC (fun hn μ1 h1 f1 => ?_) (fun q => ?_)
  · skip
    refine m_sign hV (hM.fc f1) (fun hn' μ2 h2 f2 => ?_) (fun q => absurd hn q)
    exact ⟨fun _ => ⟨_, X, _, hV.sign hn, hW, h1.fm f2, h2⟩, fun q => q rfl⟩
  · refine m_sign hV hM (fun hn μ2 h2 f2 => ?_) (fun _ μ2 h2 f2 => ?_)
    · skip
      exact absurd hn q
    · exact ⟨fun _ => ⟨A, X, W, hV, hW, hC.fm f2, h2⟩, fun q => q rfl⟩

theorem op_10 (v1 v2 v3 v4 v5 : Int32) (μ : MM) : Rel μ → Glaw_10 v1 v2 v3 v4 v5 μ Rel := by
  rintro ⟨A, X, W, hV, hW, hC, hM⟩
  have b12 : A 358 12 < 97 := hV.b 358 12 (by unfold dom; decide)
  have b8 : A 358 8 < 25 := hV.b 358 8 (by unfold dom; decide)
  have b3 : A 358 3 < 13 := hV.b 358 3 (by unfold dom; decide)
  have b28 : A 358 28 < 61 := hV.b 358 28 (by unfold dom; decide)
  refine c_read hV hC (fun a ha e1 μ1 h1 f1 => ?_) (fun q => ?_)
  · subst e1
    refine m_read hV (hM.fc f1) (fun a' ha' e1' μ2 h2 f2 => ?_) (fun q => absurd ⟨a, by omega, rfl⟩ q)
    obtain rfl := qN_inj e1' (by omega) (by omega)
    exact ⟨fun _ => ⟨_, X, _, (rs_inv hV a).1, hW, h1.fm f2, h2⟩, fun q => q rfl⟩
  · refine m_read hV hM (fun a ha e1 μ2 h2 f2 => ?_) (fun _ μ2 h2 f2 => ?_)
    · subst e1
      exact absurd ⟨a, by omega, rfl⟩ q
    · exact ⟨fun _ => ⟨A, X, W, hV, hW, hC.fm f2, h2⟩, fun q => q rfl⟩

theorem op_14 (v1 v2 v3 v4 v5 : Int32) (μ : MM) : Rel μ → Glaw_14 v1 v2 v3 v4 v5 μ Rel := by
  rintro ⟨A, X, W, hV, hW, hC, hM⟩
  refine c_seed hV.b hC (fun μ1 h1 f1 => ?_) (fun q => absurd trivial q)
  refine m_seed hV.b (hM.fc f1) (fun μ2 h2 f2 => ?_) (fun q => absurd trivial q)
  exact ⟨fun _ => ⟨_, X, W, hV.r (UInt32.toNat_lt v1.toUInt32), hW, h1.fm f2, h2⟩, fun q => q rfl⟩

theorem op_15 (v1 v2 v3 v4 v5 : Int32) (μ : MM) : Rel μ → Glaw_15 v1 v2 v3 v4 v5 μ Rel := by
  rintro ⟨A, X, W, hV, hW, hC, hM⟩
  have b12 : A 358 12 < 97 := hV.b 358 12 (by unfold dom; decide)
  have b8 : A 358 8 < 25 := hV.b 358 8 (by unfold dom; decide)
  have b3 : A 358 3 < 13 := hV.b 358 3 (by unfold dom; decide)
  refine c_share hV hC (fun hc μ1 h1 f1 => ?_) (fun q => ?_)
  · skip
    refine m_share hV (hM.fc f1) (fun hc' μ2 h2 f2 => ?_) (fun q => absurd hc q)
    exact ⟨fun _ => ⟨A, X, _, hV, (by unfold shW; split; (show (2 : Nat) ≤ 10; decide); (show (0 : Nat) ≤ 10; decide)), h1.fm f2, h2⟩, fun q => q rfl⟩
  · refine m_share hV hM (fun hc μ2 h2 f2 => ?_) (fun _ μ2 h2 f2 => ?_)
    · skip
      exact absurd hc q
    · exact ⟨fun _ => ⟨A, X, W, hV, hW, hC.fm f2, h2⟩, fun q => q rfl⟩

theorem op_19 (v1 v2 v3 v4 v5 : Int32) (μ : MM) : Rel μ → Glaw_19 v1 v2 v3 v4 v5 μ Rel := by
  rintro ⟨A, X, W, hV, hW, hC, hM⟩
  have b12 : A 358 12 < 97 := hV.b 358 12 (by unfold dom; decide)
  have b8 : A 358 8 < 25 := hV.b 358 8 (by unfold dom; decide)
  have b3 : A 358 3 < 13 := hV.b 358 3 (by unfold dom; decide)
  refine c_names hV hC (fun a ha e1 μ1 h1 f1 => ?_) (fun q => ?_)
  · subst e1
    refine m_names hV (hM.fc f1) (fun a' ha' e1' μ2 h2 f2 => ?_) (fun q => absurd ⟨a, ha, rfl⟩ q)
    obtain rfl := qN_inj e1' (by omega) (by omega)
    exact ⟨fun _ => ⟨A, X, _, hV, (by unfold nmW; split; (show (2 : Nat) ≤ 10; decide); (show (0 : Nat) ≤ 10; decide)), h1.fm f2, h2⟩, fun q => q rfl⟩
  · refine m_names hV hM (fun a ha e1 μ2 h2 f2 => ?_) (fun _ μ2 h2 f2 => ?_)
    · subst e1
      exact absurd ⟨a, ha, rfl⟩ q
    · exact ⟨fun _ => ⟨A, X, W, hV, hW, hC.fm f2, h2⟩, fun q => q rfl⟩

theorem op_21 (v1 v2 v3 v4 v5 : Int32) (μ : MM) : Rel μ → Glaw_21 v1 v2 v3 v4 v5 μ Rel := by
  rintro ⟨A, X, W, hV, hW, hC, hM⟩
  have b12 : A 358 12 < 97 := hV.b 358 12 (by unfold dom; decide)
  have b8 : A 358 8 < 25 := hV.b 358 8 (by unfold dom; decide)
  have b3 : A 358 3 < 13 := hV.b 358 3 (by unfold dom; decide)
  refine c_goes hV hC (fun a ha e1 μ1 h1 f1 => ?_) (fun q => ?_)
  · subst e1
    refine m_goes hV (hM.fc f1) (fun a' ha' e1' μ2 h2 f2 => ?_) (fun q => absurd ⟨a, ha, rfl⟩ q)
    obtain rfl := qN_inj e1' (by omega) (by omega)
    exact ⟨fun _ => ⟨A, X, (goW A a), hV, (show (2 : Nat) ≤ 10 by decide), h1.fm f2, h2⟩, fun q => q rfl⟩
  · refine m_goes hV hM (fun a ha e1 μ2 h2 f2 => ?_) (fun _ μ2 h2 f2 => ?_)
    · subst e1
      exact absurd ⟨a, ha, rfl⟩ q
    · exact ⟨fun _ => ⟨A, X, W, hV, hW, hC.fm f2, h2⟩, fun q => q rfl⟩

theorem op_23 (v1 v2 v3 v4 v5 : Int32) (μ : MM) : Rel μ → Glaw_23 v1 v2 v3 v4 v5 μ Rel := by
  rintro ⟨A, X, W, hV, hW, hC, hM⟩
  have b12 : A 358 12 < 97 := hV.b 358 12 (by unfold dom; decide)
  have b8 : A 358 8 < 25 := hV.b 358 8 (by unfold dom; decide)
  have b3 : A 358 3 < 13 := hV.b 358 3 (by unfold dom; decide)
  refine c_child hV hC (fun a h1a ha e1 μ1 h1 f1 => ?_) (fun q => ?_)
  · subst e1
    refine m_child hV (hM.fc f1) (fun a' h1a' ha' e1' μ2 h2 f2 => ?_) (fun q => absurd ⟨a, h1a, ha, rfl⟩ q)
    obtain rfl := qN_inj e1' (by omega) (by omega)
    exact ⟨fun _ => ⟨A, X, (chW A a), hV, (show (2 : Nat) ≤ 10 by decide), h1.fm f2, h2⟩, fun q => q rfl⟩
  · refine m_child hV hM (fun a h1a ha e1 μ2 h2 f2 => ?_) (fun _ μ2 h2 f2 => ?_)
    · subst e1
      exact absurd ⟨a, h1a, ha, rfl⟩ q
    · exact ⟨fun _ => ⟨A, X, W, hV, hW, hC.fm f2, h2⟩, fun q => q rfl⟩

theorem op_37 (v1 v2 v3 v4 v5 : Int32) (μ : MM) : Rel μ → Glaw_37 v1 v2 v3 v4 v5 μ Rel := by
  rintro ⟨A, X, W, hV, hW, hC, hM⟩
  have b12 : A 358 12 < 97 := hV.b 358 12 (by unfold dom; decide)
  have b8 : A 358 8 < 25 := hV.b 358 8 (by unfold dom; decide)
  have b3 : A 358 3 < 13 := hV.b 358 3 (by unfold dom; decide)
  refine c_mornings hV hC (fun a b c ha hb hc e1 e2 e3 μ1 h1 f1 => ?_) (fun q => ?_)
  · subst e1 e2 e3
    refine m_mornings hV (hM.fc f1) (fun a' b' c' ha' hb' hc' e1' e2' e3' μ2 h2 f2 => ?_) (fun q => absurd ⟨⟨a, ha, rfl⟩, ⟨b, hb, rfl⟩, ⟨c, hc, rfl⟩⟩ q)
    obtain rfl := qN_inj e1' (by omega) (by omega)
    obtain rfl := qN_inj e2' (by omega) (by omega)
    obtain rfl := qN_inj e3' (by omega) (by omega)
    exact ⟨fun _ => ⟨A, X, (moW A a b c), hV, (show (2 : Nat) ≤ 10 by decide), h1.fm f2, h2⟩, fun q => q rfl⟩
  · refine m_mornings hV hM (fun a b c ha hb hc e1 e2 e3 μ2 h2 f2 => ?_) (fun _ μ2 h2 f2 => ?_)
    · subst e1 e2 e3
      exact absurd ⟨⟨a, ha, rfl⟩, ⟨b, hb, rfl⟩, ⟨c, hc, rfl⟩⟩ q
    · exact ⟨fun _ => ⟨A, X, W, hV, hW, hC.fm f2, h2⟩, fun q => q rfl⟩

theorem op_22 (v1 v2 v3 v4 v5 : Int32) (μ : MM) : Rel μ → Glaw_22 v1 v2 v3 v4 v5 μ Rel := by
  rintro ⟨A, X, W, hV, hW, hC, hM⟩
  refine c_says hV hC (fun μ1 h1 f1 => ?_)
  refine m_says hV (hM.fc f1) (fun μ2 h2 f2 => ?_)
  exact ⟨fun _ => ⟨A, X, [qJ (sy A 4).2], hV, (show (1 : Nat) ≤ 10 by decide), h1.fm f2, h2⟩, fun q => q rfl⟩

theorem op_11 (v1 v2 v3 v4 v5 : Int32) (μ : MM) : Rel μ → Glaw_11 v1 v2 v3 v4 v5 μ Rel := by
  rintro ⟨A, X, W, hV, hW, hC, hM⟩
  have b12 : A 358 12 < 97 := hV.b 358 12 (by unfold dom; decide)
  have key : ∀ v, inr v 2 → ∀ Q : Int32 → MM → Prop, (∀ r μ1, G12_ring v1 v μ1 (fun r4 μ3 => ((r = r4 → Rel μ3) ∧ (¬ (r = r4) → False))) → Q r μ1) → G11_ring v1 v μ Q := by
    intro v hv Q hQ
    refine c_ring hv hV.b hC (fun a b ha h0 hb e1 e2 μ1 h1 f1 => hQ _ _ ?_) (fun q => hQ _ _ ?_)
    · subst e1 e2
      refine m_ring hv hV.b (hM.fc f1) (fun a' b' ha' h0' hb' e1' e2' μ2 h2 f2 => ?_) (fun q => absurd ⟨⟨a, ha, rfl⟩, ⟨a, ⟨by omega, h0⟩, rfl⟩⟩ q)
      obtain rfl := qN_inj e1' (by omega) (by omega)
      obtain rfl := qN_inj e2' (by omega) (by omega)
      exact ⟨fun _ => ⟨_, X, W, hV.ring (by omega) h0 hb, hW, h1.fm f2, h2⟩, fun q => q rfl⟩
    · refine m_ring hv hV.b hM (fun a b ha h0 hb e1 e2 μ2 h2 f2 => ?_) (fun _ μ2 h2 f2 => ?_)
      · subst e1 e2
        exact absurd ⟨⟨a, ha, rfl⟩, ⟨a, ⟨by omega, h0⟩, rfl⟩⟩ q
      · exact ⟨fun _ => ⟨A, X, W, hV, hW, hC.fm f2, h2⟩, fun q => q rfl⟩
  refine ⟨fun q => key 0 ⟨0, by decide, rfl⟩ _ (fun r μ1 h => ⟨fun _ => h, fun r2 => absurd q r2⟩), fun q => key 1 ⟨1, by decide, rfl⟩ _ (fun r μ1 h => ⟨fun r2 => absurd r2 q, fun _ => h⟩)⟩

theorem op_16 (v1 v2 v3 v4 v5 : Int32) (μ : MM) : Rel μ → Glaw_16 v1 v2 v3 v4 v5 μ Rel := by
  rintro ⟨A, X, W, hV, hW, hC, hM⟩
  refine c_aside hV hC (fun q qb μ1 h1 f1 => ?_) (fun q qb μ1 h1 f1 => ?_) (fun q => ?_)
  · refine m_aside hV (hM.fc f1) (fun _ _ μ2 h2 f2 => ?_) (fun _ r => absurd qb r) (fun r => absurd q r)
    exact ⟨fun _ => ⟨A, X, (asW A (gSel A X v1 (-1))), hV, (show (6 : Nat) ≤ 10 by decide), h1.fm f2, h2⟩, fun q => q rfl⟩
  · refine m_aside hV (hM.fc f1) (fun _ r => absurd r qb) (fun _ _ μ2 h2 f2 => ?_) (fun r => absurd q r)
    exact ⟨fun _ => ⟨A, X, W, hV, hW, h1.fm f2, h2⟩, fun q => q rfl⟩
  · refine m_aside hV hM (fun r => absurd r q) (fun r => absurd r q) (fun _ μ2 h2 f2 => ?_)
    exact ⟨fun _ => ⟨A, X, W, hV, hW, hC.fm f2, h2⟩, fun q => q rfl⟩

theorem op_32 (v1 v2 v3 v4 v5 : Int32) (μ : MM) : Rel μ → Glaw_32 v1 v2 v3 v4 v5 μ Rel := by
  rintro ⟨A, X, W, hV, hW, hC, hM⟩
  refine c_both hV hC (fun v hv1 hv9 e qa qb μ1 h1 f1 => ?_) (fun v hv1 hv9 e qa μ1 h1 f1 => ?_) (fun q => ?_)
  · subst e
    refine m_both hV (hM.fc f1) (fun v' _ _ e _ _ μ2 h2 f2 => ?_) (fun v' _ _ e qc => ?_) (fun r => absurd ⟨v, hv1, hv9, rfl⟩ r)
    · obtain rfl := qN_inj e (by omega) (by omega)
      exact ⟨fun _ => ⟨A, X, (boW A v), hV, (show (10 : Nat) ≤ 10 by decide), h1.fm f2, h2⟩, fun q => q rfl⟩
    · obtain rfl := qN_inj e (by omega) (by omega)
      exact absurd ⟨qa, qb⟩ qc
  · subst e
    refine m_both hV (hM.fc f1) (fun v' _ _ e qb qc => ?_) (fun v' _ _ e _ μ2 h2 f2 => ?_) (fun r => absurd ⟨v, hv1, hv9, rfl⟩ r)
    · obtain rfl := qN_inj e (by omega) (by omega)
      exact absurd ⟨qb, qc⟩ qa
    · exact ⟨fun _ => ⟨A, X, W, hV, hW, h1.fm f2, h2⟩, fun q => q rfl⟩
  · refine m_both hV hM (fun v hv1 hv9 e => absurd ⟨v, hv1, hv9, e⟩ q) (fun v hv1 hv9 e => absurd ⟨v, hv1, hv9, e⟩ q) (fun _ μ2 h2 f2 => ?_)
    exact ⟨fun _ => ⟨A, X, W, hV, hW, hC.fm f2, h2⟩, fun q => q rfl⟩

theorem op_35 (v1 v2 v3 v4 v5 : Int32) (μ : MM) : Rel μ → Glaw_35 v1 v2 v3 v4 v5 μ Rel := by
  rintro ⟨A, X, W, hV, hW, hC, hM⟩
  refine c_bounds hV hC (fun a ha e qa μ1 h1 f1 => ?_) (fun a ha e qa => ?_) (fun q => ?_)
  · subst e
    refine m_bounds hV (hM.fc f1) (fun a' ha' e _ μ2 h2 f2 => ?_) (fun a' ha' e qc => ?_) (fun r => absurd ⟨a, ha, rfl⟩ r)
    · obtain rfl := qN_inj e (by omega) (by omega)
      exact ⟨fun _ => ⟨A, X, (bdW A a), hV, (show (4 : Nat) ≤ 10 by decide), h1.fm f2, h2⟩, fun q => q rfl⟩
    · obtain rfl := qN_inj e (by omega) (by omega)
      omega
  · subst e
    refine m_bounds hV hM (fun a' ha' e qb => ?_) (fun a' ha' e _ μ2 h2 f2 => ?_) (fun r => absurd ⟨a, ha, rfl⟩ r)
    · obtain rfl := qN_inj e (by omega) (by omega)
      omega
    · exact ⟨fun _ => ⟨A, X, W, hV, hW, hC.fm f2, h2⟩, fun q => q rfl⟩
  · refine m_bounds hV hM (fun a ha e => absurd ⟨a, ha, e⟩ q) (fun a ha e => absurd ⟨a, ha, e⟩ q) (fun _ μ2 h2 f2 => ?_)
    exact ⟨fun _ => ⟨A, X, W, hV, hW, hC.fm f2, h2⟩, fun q => q rfl⟩

theorem op_36 (v1 v2 v3 v4 v5 : Int32) (μ : MM) : Rel μ → Glaw_36 v1 v2 v3 v4 v5 μ Rel := by
  rintro ⟨A, X, W, hV, hW, hC, hM⟩
  refine c_years hV hC (fun v d hv hd e qy qn μ1 h1 f1 => ?_) (fun v hv e qn μ1 h1 f1 => ?_) (fun q => ?_)
  · subst e
    refine m_years hV (hM.fc f1) (fun v' d' hv' hd' e qy' qn' μ2 h2 f2 => ?_) (fun v' hv' e qn' => ?_) (fun r => absurd ⟨v, hv, rfl⟩ r)
    · obtain rfl := qN_inj e (by omega) (by omega)
      have : d = d' := by
        rcases Nat.lt_trichotomy d d' with s | s | s
        · exact absurd qy (qn' d s)
        · exact s
        · exact absurd qy' (qn d' s)
      subst this
      exact ⟨fun _ => ⟨A, X, (yrW A (v + d)), hV, (show (2 : Nat) ≤ 10 by decide), h1.fm f2, h2⟩, fun q => q rfl⟩
    · obtain rfl := qN_inj e (by omega) (by omega)
      exact absurd qy (qn' d hd)
  · subst e
    refine m_years hV (hM.fc f1) (fun v' d' hv' hd' e qy' qn' => ?_) (fun v' hv' e qn' μ2 h2 f2 => ?_) (fun r => absurd ⟨v, hv, rfl⟩ r)
    · obtain rfl := qN_inj e (by omega) (by omega)
      exact absurd qy' (qn d' hd')
    · exact ⟨fun _ => ⟨A, X, W, hV, hW, h1.fm f2, h2⟩, fun q => q rfl⟩
  · refine m_years hV hM (fun v d hv hd e => absurd ⟨v, hv, e⟩ q) (fun v hv e => absurd ⟨v, hv, e⟩ q) (fun _ μ2 h2 f2 => ?_)
    exact ⟨fun _ => ⟨A, X, W, hV, hW, hC.fm f2, h2⟩, fun q => q rfl⟩

theorem op_24 (v1 v2 v3 v4 v5 : Int32) (μ : MM) : Rel μ → Glaw_24 v1 v2 v3 v4 v5 μ Rel := by
  rintro ⟨A, X, W, hV, hW, hC, hM⟩
  refine c_table hV hC (fun a b ha hb e1 e2 => ?_) (fun q => ?_)
  · subst e1 e2
    refine m_table hV hM (fun a' b' ha' hb' e1' e2' μ2 h2 f2 => ?_) (fun q => absurd ⟨⟨a, ha, rfl⟩, ⟨b, hb, rfl⟩⟩ q)
    obtain rfl := qN_inj e1' (by omega) (by omega)
    obtain rfl := qN_inj e2' (by omega) (by omega)
    exact ⟨fun _ => ⟨A, X, W, hV, hW, hC.fm f2, h2⟩, fun q => q rfl⟩
  · refine m_table hV hM (fun a b ha hb e1 e2 => absurd ⟨⟨a, ha, e1⟩, ⟨b, hb, e2⟩⟩ q) (fun _ μ2 h2 f2 => ?_)
    exact ⟨fun _ => ⟨A, X, W, hV, hW, hC.fm f2, h2⟩, fun q => q rfl⟩

theorem op_46 (v1 v2 v3 v4 v5 : Int32) (μ : MM) : Rel μ → Glaw_46 v1 v2 v3 v4 v5 μ Rel := by
  rintro ⟨A, X, W, hV, hW, hC, hM⟩
  refine c_count hV hC (m_count hV hM (fun μ2 h2 f2 => ?_))
  exact ⟨fun _ => ⟨A, X, W, hV, hW, hC.fm f2, h2⟩, fun q => q rfl⟩

theorem op_12 (v1 v2 v3 v4 v5 : Int32) (μ : MM) : Rel μ → Glaw_12 v1 v2 v3 v4 v5 μ Rel := by
  rintro ⟨A, X, W, hV, hW, hC, hM⟩
  refine c_box hV hC (fun a n ha hn e1 e2 μ1 h1 f1 => ?_) (fun e1 hle μ1 h1 f1 => ?_) (fun a ha e1 hle hlt => ?_) (fun q => ?_)
  · have c96 : ¬ (v2 < 0) := by rw [e2, qN_neg (by omega)]; exact id
    subst e1
    have hle : v2 ≤ 96 := by rw [e2, show (96 : Int32) = qN 96 from rfl, qN_le (by omega) (by decide)]; exact hn
    refine m_box hV (hM.fc f1) (fun a' n' ha' hn' e1' e2' μ2 h2 f2 => ?_) (fun e _ => ?_) (fun a' _ _ _ hlt => absurd hlt c96) (fun r => absurd ⟨⟨a, by omega, rfl⟩, hle⟩ r)
    · obtain rfl := qN_inj e1' (by omega) (by omega)
      rw [e2] at e2'
      obtain rfl := qN_inj e2' (by omega) (by omega)
      exact ⟨fun _ => ⟨_, X, W, bx_inv hV a v3 v4 _ (by unfold nmin; split <;> omega), hW, h1.fm f2, h2⟩, fun q => q rfl⟩
    · have := qN_inj e (by omega) (by omega)
      omega
  · have b12 : A 358 12 < 97 := hV.b 358 12 (by unfold dom; decide)
    subst e1
    refine m_box hV (hM.fc f1) (fun a' n' ha' hn' e1' e2' => ?_) (fun e _ μ2 h2 f2 => ?_) (fun a' ha' e _ _ => ?_) (fun r => absurd ⟨⟨3, by omega, rfl⟩, hle⟩ r)
    · have := qN_inj e1' (by omega) (by omega)
      omega
    · exact ⟨fun _ => ⟨_, X, W, bx_inv hV 3 v3 v4 _ (by omega), hW, h1.fm f2, h2⟩, fun q => q rfl⟩
    · have := qN_inj e (by omega) (by omega)
      omega
  · subst e1
    refine m_box hV hM (fun a' n' ha' hn' e1' e2' => ?_) (fun e _ => ?_) (fun a' _ _ _ _ μ2 h2 f2 => ?_) (fun r => absurd ⟨⟨a, by omega, rfl⟩, hle⟩ r)
    · rw [e2', qN_neg (by omega)] at hlt
      exact absurd hlt id
    · have := qN_inj e (by omega) (by omega)
      omega
    · exact ⟨fun _ => ⟨A, X, W, hV, hW, hC.fm f2, h2⟩, fun q => q rfl⟩
  · refine m_box hV hM (fun a n ha hn e1 e2 => ?_) (fun e1 hle => absurd ⟨⟨3, by decide, e1⟩, hle⟩ q) (fun a ha e1 hle _ => absurd ⟨⟨a, by omega, e1⟩, hle⟩ q) (fun _ μ2 h2 f2 => ?_)
    · refine absurd ⟨⟨a, by omega, e1⟩, ?_⟩ q
      rw [e2, show (96 : Int32) = qN 96 from rfl, qN_le (by omega) (by decide)]
      exact hn
    · exact ⟨fun _ => ⟨A, X, W, hV, hW, hC.fm f2, h2⟩, fun q => q rfl⟩

theorem toL_inj {a b : Int32} (h : a = b) : lg_cmp a.toInt64 b.toInt64 = 0 := by
  subst h
  rw [lg_0]
theorem lgn {a b : Int64} (h : a = b) : lg_cmp a b = 0 := by
  rw [lg_0]; exact h

theorem op_4 (v1 v2 v3 v4 v5 : Int32) (μ : MM) : Rel μ → Glaw_4 v1 v2 v3 v4 v5 μ Rel := by
  rintro ⟨A, X, W, hV, hW, hC, hM⟩
  have b12 : A 358 12 < 97 := hV.b 358 12 (by unfold dom; decide)
  refine c_of hV.b hC (fun a b ha hb e1 e2 => ?_) (fun q => ?_)
  · subst e1 e2
    refine m_of hV.b (m_out hM _) (fun a' b' ha' hb' e1' e2' μ2 h2 f2 z => ?_) (fun q => absurd ⟨⟨a, ha, rfl⟩, ⟨b, hb, rfl⟩⟩ q)
    obtain rfl := qN_inj e1' (by omega) (by omega)
    obtain rfl := qN_inj e2' (by omega) (by omega)
    have e4 : gJ μ2 410 0 = (qN (A (367 + b) a)).toInt64 := ((f2 410 0 (Or.inr rfl)).2.1).trans (by rw [gJ_J, if_pos ⟨rfl, rfl⟩])
    show (gI μ2 358 0 = 0 → _) ∧ (¬ gI μ2 358 0 = 0 → False)
    rw [e4]
    exact ⟨fun _ => ⟨fun r => absurd rfl r, fun _ => ⟨fun _ => ⟨A, X, W, hV, hW, (c_out hC _).fm f2, h2⟩, fun r => absurd (lgn rfl) r⟩⟩, fun r => r z⟩
  · refine m_of hV.b hM (fun a b ha hb e1 e2 => absurd ⟨⟨a, ha, e1⟩, ⟨b, hb, e2⟩⟩ q) (fun _ μ2 h2 f2 z r => ?_)
    show (gI μ2 358 0 = 1 → _) ∧ (¬ gI μ2 358 0 = 1 → False)
    exact ⟨fun _ => ⟨fun _ => ⟨A, X, W, hV, hW, hC.fm f2, h2⟩, fun r => absurd r (by decide)⟩, fun r => r z⟩

theorem op_9 (v1 v2 v3 v4 v5 : Int32) (μ : MM) : Rel μ → Glaw_9 v1 v2 v3 v4 v5 μ Rel := by
  rintro ⟨A, X, W, hV, hW, hC, hM⟩
  have b12 : A 358 12 < 97 := hV.b 358 12 (by unfold dom; decide)
  refine c_value hV hC (fun p i hp hp0 hi e1 e2 μ1 h1 f1 => ?_) (fun q => ?_)
  · subst e1 e2
    refine m_value hV (m_out (hM.fc f1) _) (fun p' i' hp' hp0' hi' e1' e2' μ2 h2 f2 z => ?_) (fun q => absurd ⟨⟨i, hi, rfl⟩, ⟨p, hp, rfl, hp0⟩⟩ q)
    obtain rfl := qN_inj e1' (by omega) (by omega)
    obtain rfl := qN_inj e2' (by omega) (by omega)
    have e4 : gJ μ2 410 0 = (lwv A X p i).toInt64 := ((f2 410 0 (Or.inr rfl)).2.1).trans (by rw [gJ_J, if_pos ⟨rfl, rfl⟩])
    show (gI μ2 358 0 = 0 → _) ∧ (¬ gI μ2 358 0 = 0 → False)
    rw [e4]
    exact ⟨fun _ => ⟨fun r => absurd rfl r, fun _ => ⟨fun _ => ⟨A, X, W, hV, hW, (c_out h1 _).fm f2, h2⟩, fun r => absurd (lgn rfl) r⟩⟩, fun r => r z⟩
  · refine m_value hV hM (fun p i hp hp0 hi e1 e2 => absurd ⟨⟨i, hi, e2⟩, ⟨p, hp, e1, hp0⟩⟩ q) (fun _ μ2 h2 f2 z r => ?_)
    show (gI μ2 358 0 = 1 → _) ∧ (¬ gI μ2 358 0 = 1 → False)
    exact ⟨fun _ => ⟨fun _ => ⟨A, X, W, hV, hW, hC.fm f2, h2⟩, fun r => absurd r (by decide)⟩, fun r => r z⟩

theorem op_47 (v1 v2 v3 v4 v5 : Int32) (μ : MM) : Rel μ → Glaw_47 v1 v2 v3 v4 v5 μ Rel := by
  rintro ⟨A, X, W, hV, hW, hC, hM⟩
  refine c_row hW hC (fun i hi e1 => ?_) (fun q => ?_)
  · subst e1
    refine m_row hW (m_out hM _) (fun i' hi' e1' μ2 h2 f2 z => ?_) (fun q => absurd ⟨i, hi, rfl⟩ q)
    obtain rfl := qN_inj e1' (by omega) (by omega)
    have e4 : gJ μ2 410 0 = W.getD i 0 := ((f2 410 0 (Or.inr rfl)).2.1).trans (by rw [gJ_J, if_pos ⟨rfl, rfl⟩])
    show (gI μ2 358 0 = 0 → _) ∧ (¬ gI μ2 358 0 = 0 → False)
    rw [e4]
    exact ⟨fun _ => ⟨fun r => absurd rfl r, fun _ => ⟨fun _ => ⟨A, X, W, hV, hW, (c_out hC _).fm f2, h2⟩, fun r => absurd (lgn rfl) r⟩⟩, fun r => r z⟩
  · refine m_row hW hM (fun i hi e1 => absurd ⟨i, hi, e1⟩ q) (fun _ μ2 h2 f2 z => ?_)
    show (gI μ2 358 0 = 1 → _) ∧ (¬ gI μ2 358 0 = 1 → False)
    exact ⟨fun _ => ⟨fun _ => ⟨A, X, W, hV, hW, hC.fm f2, h2⟩, fun r => absurd r (by decide)⟩, fun r => r z⟩
