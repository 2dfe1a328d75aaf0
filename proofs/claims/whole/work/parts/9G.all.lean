theorem po_all : ob_all Rel := ⟨po_feed, po_town, po_year, po_person, po_wrong, po_lamps, po_dark, po_harm, po_say, po_give, po_ask, po_night, po_undo, po_judged, po_pay, po_when, po_grudges, po_ripe, po_price, po_stays, po_middle, po_round, po_circle, po_need, po_wind, po_see, po_sets, po_look, po_law, po_years, po_mark, po_count⟩
theorem pu_ok : pu_all := by
  obtain ⟨m2, m3, e1, e2, e3⟩ := pu_init
  exact ⟨Rel, m2, m3, e1, e2, e3, po_all, po_rests⟩
theorem i_vc : Claimed_1_1 ∧ Claimed_1_2 := whole_of pu_ok
