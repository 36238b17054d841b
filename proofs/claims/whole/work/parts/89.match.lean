/-! every call answers alike, and leaves alike -/
theorem match_all : Match 4000 Rel :=
  have h : 4000 ≤ 4000 := Nat.le_refl _
  ⟨mt_board 4000, mt_dent 4000, mt_clear 4000, mt_table 4000, mt_of 4000 h, mt_leaning 4000 h, mt_seen 4000 h, mt_track 4000 h, mt_through 4000, mt_within 4000 h, mt_map 4000 h, mt_radar 4000, mt_off 4000 h, mt_feed 4000 h, mt_end 4000, mt_rules 4000 h, mt_fault 4000, mt_claim 4000, mt_judged 4000 h, mt_quarrel 4000 h, mt_count 4000 h, mt_status 4000⟩
