theorem a_race : AS gL_race gM_race := sorry
