/-! AheadStore$Claims -/
abbrev S0 : Type := (Nat → Int32) × (Nat → Int32) × (Nat → Int32) × (Nat → Int32) × (Nat → Int32) × (Nat → Int32) × (Nat → Int32)
abbrev g0_wrote (u : S0) : (Nat → Int32) := u.1
abbrev g0_added (u : S0) : (Nat → Int32) := u.2.1
abbrev g0_waits (u : S0) : (Nat → Int32) := u.2.2.1
abbrev g0_saveCount (u : S0) : (Nat → Int32) := u.2.2.2.1
abbrev g0_topCount (u : S0) : (Nat → Int32) := u.2.2.2.2.1
abbrev g0_saves (u : S0) : (Nat → Int32) := u.2.2.2.2.2.1
abbrev g0_tops (u : S0) : (Nat → Int32) := u.2.2.2.2.2.2
abbrev s0_wrote (u : S0) (v : (Nat → Int32)) : S0 := (v, u.2)
abbrev s0_added (u : S0) (v : (Nat → Int32)) : S0 := (u.1, v, u.2.2)
abbrev s0_waits (u : S0) (v : (Nat → Int32)) : S0 := (u.1, u.2.1, v, u.2.2.2)
abbrev s0_saveCount (u : S0) (v : (Nat → Int32)) : S0 := (u.1, u.2.1, u.2.2.1, v, u.2.2.2.2)
abbrev s0_topCount (u : S0) (v : (Nat → Int32)) : S0 := (u.1, u.2.1, u.2.2.1, u.2.2.2.1, v, u.2.2.2.2.2)
abbrev s0_saves (u : S0) (v : (Nat → Int32)) : S0 := (u.1, u.2.1, u.2.2.1, u.2.2.2.1, u.2.2.2.2.1, v, u.2.2.2.2.2.2)
abbrev s0_tops (u : S0) (v : (Nat → Int32)) : S0 := (u.1, u.2.1, u.2.2.1, u.2.2.2.1, u.2.2.2.2.1, u.2.2.2.2.2.1, v)
def cs0 (cI : ClassId) (q : Nat → Nat) (u : S0) : va_W := [(q 0, .inr (0, [.ref (q 1), .ref (q 2), .ref (q 3), .ref (q 4), .ref (q 5), .ref (q 6), .ref (q 7)])), (q 1, .inl (cI, 256, .inl (g0_wrote u))), (q 2, .inl (cI, 256, .inl (g0_added u))), (q 3, .inl (cI, 10, .inl (g0_waits u))), (q 4, .inl (cI, 10, .inl (g0_saveCount u))), (q 5, .inl (cI, 10, .inl (g0_topCount u))), (q 6, .inl (cI, 80, .inl (g0_saves u))), (q 7, .inl (cI, 40, .inl (g0_tops u)))]
/-! AheadStore$Journal -/
abbrev S2 : Type := (Nat → Int32) × Int32 × Int32 × Int32
abbrev g2_row (u : S2) : (Nat → Int32) := u.1
abbrev g2_endPlace (u : S2) : Int32 := u.2.1
abbrev g2_flushedPlace (u : S2) : Int32 := u.2.2.1
abbrev g2_pen (u : S2) : Int32 := u.2.2.2
abbrev s2_row (u : S2) (v : (Nat → Int32)) : S2 := (v, u.2)
abbrev s2_endPlace (u : S2) (v : Int32) : S2 := (u.1, v, u.2.2)
abbrev s2_flushedPlace (u : S2) (v : Int32) : S2 := (u.1, u.2.1, v, u.2.2.2)
abbrev s2_pen (u : S2) (v : Int32) : S2 := (u.1, u.2.1, u.2.2.1, v)
def cs2 (cI : ClassId) (q : Nat → Nat) (u : S2) : va_W := [(q 0, .inr (2, [.ref (q 1), .int (g2_endPlace u), .int (g2_flushedPlace u), .int (g2_pen u)])), (q 1, .inl (cI, 8600, .inl (g2_row u)))]
/-! AheadStore$Pages -/
abbrev S3 : Type := (Nat → Int32) × (Nat → Int32) × (Nat → Int32) × (Nat → Int32) × Int32 × Int32 × (Nat → Int32) × (Nat → Int32) × (Nat → Int32) × (Nat → Int32) × (Nat → Int32) × Int32
abbrev g3_disk (u : S3) : (Nat → Int32) := u.1
abbrev g3_diskStamps (u : S3) : (Nat → Int32) := u.2.1
abbrev g3_archive (u : S3) : (Nat → Int32) := u.2.2.1
abbrev g3_archiveStamps (u : S3) : (Nat → Int32) := u.2.2.2.1
abbrev g3_lost (u : S3) : Int32 := u.2.2.2.2.1
abbrev g3_frameCount (u : S3) : Int32 := u.2.2.2.2.2.1
abbrev g3_held (u : S3) : (Nat → Int32) := u.2.2.2.2.2.2.1
abbrev g3_copies (u : S3) : (Nat → Int32) := u.2.2.2.2.2.2.2.1
abbrev g3_stamps (u : S3) : (Nat → Int32) := u.2.2.2.2.2.2.2.2.1
abbrev g3_recs (u : S3) : (Nat → Int32) := u.2.2.2.2.2.2.2.2.2.1
abbrev g3_uses (u : S3) : (Nat → Int32) := u.2.2.2.2.2.2.2.2.2.2.1
abbrev g3_clock (u : S3) : Int32 := u.2.2.2.2.2.2.2.2.2.2.2
abbrev s3_disk (u : S3) (v : (Nat → Int32)) : S3 := (v, u.2)
abbrev s3_diskStamps (u : S3) (v : (Nat → Int32)) : S3 := (u.1, v, u.2.2)
abbrev s3_archive (u : S3) (v : (Nat → Int32)) : S3 := (u.1, u.2.1, v, u.2.2.2)
abbrev s3_archiveStamps (u : S3) (v : (Nat → Int32)) : S3 := (u.1, u.2.1, u.2.2.1, v, u.2.2.2.2)
abbrev s3_lost (u : S3) (v : Int32) : S3 := (u.1, u.2.1, u.2.2.1, u.2.2.2.1, v, u.2.2.2.2.2)
abbrev s3_frameCount (u : S3) (v : Int32) : S3 := (u.1, u.2.1, u.2.2.1, u.2.2.2.1, u.2.2.2.2.1, v, u.2.2.2.2.2.2)
abbrev s3_held (u : S3) (v : (Nat → Int32)) : S3 := (u.1, u.2.1, u.2.2.1, u.2.2.2.1, u.2.2.2.2.1, u.2.2.2.2.2.1, v, u.2.2.2.2.2.2.2)
abbrev s3_copies (u : S3) (v : (Nat → Int32)) : S3 := (u.1, u.2.1, u.2.2.1, u.2.2.2.1, u.2.2.2.2.1, u.2.2.2.2.2.1, u.2.2.2.2.2.2.1, v, u.2.2.2.2.2.2.2.2)
abbrev s3_stamps (u : S3) (v : (Nat → Int32)) : S3 := (u.1, u.2.1, u.2.2.1, u.2.2.2.1, u.2.2.2.2.1, u.2.2.2.2.2.1, u.2.2.2.2.2.2.1, u.2.2.2.2.2.2.2.1, v, u.2.2.2.2.2.2.2.2.2)
abbrev s3_recs (u : S3) (v : (Nat → Int32)) : S3 := (u.1, u.2.1, u.2.2.1, u.2.2.2.1, u.2.2.2.2.1, u.2.2.2.2.2.1, u.2.2.2.2.2.2.1, u.2.2.2.2.2.2.2.1, u.2.2.2.2.2.2.2.2.1, v, u.2.2.2.2.2.2.2.2.2.2)
abbrev s3_uses (u : S3) (v : (Nat → Int32)) : S3 := (u.1, u.2.1, u.2.2.1, u.2.2.2.1, u.2.2.2.2.1, u.2.2.2.2.2.1, u.2.2.2.2.2.2.1, u.2.2.2.2.2.2.2.1, u.2.2.2.2.2.2.2.2.1, u.2.2.2.2.2.2.2.2.2.1, v, u.2.2.2.2.2.2.2.2.2.2.2)
abbrev s3_clock (u : S3) (v : Int32) : S3 := (u.1, u.2.1, u.2.2.1, u.2.2.2.1, u.2.2.2.2.1, u.2.2.2.2.2.1, u.2.2.2.2.2.2.1, u.2.2.2.2.2.2.2.1, u.2.2.2.2.2.2.2.2.1, u.2.2.2.2.2.2.2.2.2.1, u.2.2.2.2.2.2.2.2.2.2.1, v)
def cs3 (cI : ClassId) (q : Nat → Nat) (u : S3) : va_W := [(q 0, .inr (3, [.ref (q 1), .ref (q 2), .ref (q 3), .ref (q 4), .int (g3_lost u), .int (g3_frameCount u), .ref (q 5), .ref (q 6), .ref (q 7), .ref (q 8), .ref (q 9), .int (g3_clock u)])), (q 1, .inl (cI, 256, .inl (g3_disk u))), (q 2, .inl (cI, 16, .inl (g3_diskStamps u))), (q 3, .inl (cI, 256, .inl (g3_archive u))), (q 4, .inl (cI, 16, .inl (g3_archiveStamps u))), (q 5, .inl (cI, 8, .inl (g3_held u))), (q 6, .inl (cI, 128, .inl (g3_copies u))), (q 7, .inl (cI, 8, .inl (g3_stamps u))), (q 8, .inl (cI, 8, .inl (g3_recs u))), (q 9, .inl (cI, 8, .inl (g3_uses u)))]
/-! AheadStore$Recovery -/
abbrev S4 : Type := (Nat → Int32) × Int32 × Int32 × Int32 × Int32 × Int32 × Int32
abbrev g4_unclean (u : S4) : (Nat → Int32) := u.1
abbrev g4_written (u : S4) : Int32 := u.2.1
abbrev g4_analysed (u : S4) : Int32 := u.2.2.1
abbrev g4_losers (u : S4) : Int32 := u.2.2.2.1
abbrev g4_compensated (u : S4) : Int32 := u.2.2.2.2.1
abbrev g4_ended (u : S4) : Int32 := u.2.2.2.2.2.1
abbrev g4_redoneInAll (u : S4) : Int32 := u.2.2.2.2.2.2
abbrev s4_unclean (u : S4) (v : (Nat → Int32)) : S4 := (v, u.2)
abbrev s4_written (u : S4) (v : Int32) : S4 := (u.1, v, u.2.2)
abbrev s4_analysed (u : S4) (v : Int32) : S4 := (u.1, u.2.1, v, u.2.2.2)
abbrev s4_losers (u : S4) (v : Int32) : S4 := (u.1, u.2.1, u.2.2.1, v, u.2.2.2.2)
abbrev s4_compensated (u : S4) (v : Int32) : S4 := (u.1, u.2.1, u.2.2.1, u.2.2.2.1, v, u.2.2.2.2.2)
abbrev s4_ended (u : S4) (v : Int32) : S4 := (u.1, u.2.1, u.2.2.1, u.2.2.2.1, u.2.2.2.2.1, v, u.2.2.2.2.2.2)
abbrev s4_redoneInAll (u : S4) (v : Int32) : S4 := (u.1, u.2.1, u.2.2.1, u.2.2.2.1, u.2.2.2.2.1, u.2.2.2.2.2.1, v)
def cs4 (cI : ClassId) (q : Nat → Nat) (u : S4) : va_W := [(q 0, .inr (4, [.ref (q 1), .int (g4_written u), .int (g4_analysed u), .int (g4_losers u), .int (g4_compensated u), .int (g4_ended u), .int (g4_redoneInAll u)])), (q 1, .inl (cI, 16, .inl (g4_unclean u)))]
/-! AheadStore$Roster -/
abbrev S5 : Type := (Nat → Int32) × (Nat → Int32) × (Nat → Int32)
abbrev g5_is (u : S5) : (Nat → Int32) := u.1
abbrev g5_last (u : S5) : (Nat → Int32) := u.2.1
abbrev g5_cursor (u : S5) : (Nat → Int32) := u.2.2
abbrev s5_is (u : S5) (v : (Nat → Int32)) : S5 := (v, u.2)
abbrev s5_last (u : S5) (v : (Nat → Int32)) : S5 := (u.1, v, u.2.2)
abbrev s5_cursor (u : S5) (v : (Nat → Int32)) : S5 := (u.1, u.2.1, v)
def cs5 (cI : ClassId) (q : Nat → Nat) (u : S5) : va_W := [(q 0, .inr (5, [.ref (q 1), .ref (q 2), .ref (q 3)])), (q 1, .inl (cI, 10, .inl (g5_is u))), (q 2, .inl (cI, 10, .inl (g5_last u))), (q 3, .inl (cI, 10, .inl (g5_cursor u)))]
/-! AheadStore$Hindsight -/
abbrev S1 : Type := S5
abbrev g1_roster (u : S1) : S5 := u
abbrev s1_roster (u : S1) (v : S5) : S1 := v
def cs1 (cI : ClassId) (q : Nat → Nat) (u : S1) : va_W := [(q 0, .inr (1, [.ref (q 1)])), (q 1, .inr (5, [.ref (q 2), .ref (q 3), .ref (q 4)])), (q 2, .inl (cI, 10, .inl (g5_is (g1_roster u)))), (q 3, .inl (cI, 10, .inl (g5_last (g1_roster u)))), (q 4, .inl (cI, 10, .inl (g5_cursor (g1_roster u))))]
/-! AheadStore$Script -/
abbrev S6 : Type := (Nat → Int32) × Int32 × Int32
abbrev g6_parts (u : S6) : (Nat → Int32) := u.1
abbrev g6_size (u : S6) : Int32 := u.2.1
abbrev g6_ran (u : S6) : Int32 := u.2.2
abbrev s6_parts (u : S6) (v : (Nat → Int32)) : S6 := (v, u.2)
abbrev s6_size (u : S6) (v : Int32) : S6 := (u.1, v, u.2.2)
abbrev s6_ran (u : S6) (v : Int32) : S6 := (u.1, u.2.1, v)
def cs6 (cI : ClassId) (q : Nat → Nat) (u : S6) : va_W := [(q 0, .inr (6, [.ref (q 1), .int (g6_size u), .int (g6_ran u)])), (q 1, .inl (cI, 96, .inl (g6_parts u)))]
/-! AheadStore$Standby -/
abbrev S7 : Type := (Nat → Int32) × (Nat → Int32) × Int32 × Int32
abbrev g7_row (u : S7) : (Nat → Int32) := u.1
abbrev g7_stamps (u : S7) : (Nat → Int32) := u.2.1
abbrev g7_received (u : S7) : Int32 := u.2.2.1
abbrev g7_done (u : S7) : Int32 := u.2.2.2
abbrev s7_row (u : S7) (v : (Nat → Int32)) : S7 := (v, u.2)
abbrev s7_stamps (u : S7) (v : (Nat → Int32)) : S7 := (u.1, v, u.2.2)
abbrev s7_received (u : S7) (v : Int32) : S7 := (u.1, u.2.1, v, u.2.2.2)
abbrev s7_done (u : S7) (v : Int32) : S7 := (u.1, u.2.1, u.2.2.1, v)
def cs7 (cI : ClassId) (q : Nat → Nat) (u : S7) : va_W := [(q 0, .inr (7, [.ref (q 1), .ref (q 2), .int (g7_received u), .int (g7_done u)])), (q 1, .inl (cI, 256, .inl (g7_row u))), (q 2, .inl (cI, 16, .inl (g7_stamps u)))]
/-! AheadStore$Tape -/
abbrev S8 : Type := (Nat → Int32) × Int32 × Int32 × Int32 × S6 × Int32 × Int32 × Int32 × Int32
abbrev g8_bytes (u : S8) : (Nat → Int32) := u.1
abbrev g8_size (u : S8) : Int32 := u.2.1
abbrev g8_fault (u : S8) : Int32 := u.2.2.1
abbrev g8_faultPlace (u : S8) : Int32 := u.2.2.2.1
abbrev g8_draft (u : S8) : S6 := u.2.2.2.2.1
abbrev g8_place (u : S8) : Int32 := u.2.2.2.2.2.1
abbrev g8_token (u : S8) : Int32 := u.2.2.2.2.2.2.1
abbrev g8_tokenPlace (u : S8) : Int32 := u.2.2.2.2.2.2.2.1
abbrev g8_value (u : S8) : Int32 := u.2.2.2.2.2.2.2.2
abbrev s8_bytes (u : S8) (v : (Nat → Int32)) : S8 := (v, u.2)
abbrev s8_size (u : S8) (v : Int32) : S8 := (u.1, v, u.2.2)
abbrev s8_fault (u : S8) (v : Int32) : S8 := (u.1, u.2.1, v, u.2.2.2)
abbrev s8_faultPlace (u : S8) (v : Int32) : S8 := (u.1, u.2.1, u.2.2.1, v, u.2.2.2.2)
abbrev s8_draft (u : S8) (v : S6) : S8 := (u.1, u.2.1, u.2.2.1, u.2.2.2.1, v, u.2.2.2.2.2)
abbrev s8_place (u : S8) (v : Int32) : S8 := (u.1, u.2.1, u.2.2.1, u.2.2.2.1, u.2.2.2.2.1, v, u.2.2.2.2.2.2)
abbrev s8_token (u : S8) (v : Int32) : S8 := (u.1, u.2.1, u.2.2.1, u.2.2.2.1, u.2.2.2.2.1, u.2.2.2.2.2.1, v, u.2.2.2.2.2.2.2)
abbrev s8_tokenPlace (u : S8) (v : Int32) : S8 := (u.1, u.2.1, u.2.2.1, u.2.2.2.1, u.2.2.2.2.1, u.2.2.2.2.2.1, u.2.2.2.2.2.2.1, v, u.2.2.2.2.2.2.2.2)
abbrev s8_value (u : S8) (v : Int32) : S8 := (u.1, u.2.1, u.2.2.1, u.2.2.2.1, u.2.2.2.2.1, u.2.2.2.2.2.1, u.2.2.2.2.2.2.1, u.2.2.2.2.2.2.2.1, v)
def cs8 (cI : ClassId) (q : Nat → Nat) (u : S8) : va_W := [(q 0, .inr (8, [.ref (q 1), .int (g8_size u), .int (g8_fault u), .int (g8_faultPlace u), .ref (q 2), .int (g8_place u), .int (g8_token u), .int (g8_tokenPlace u), .int (g8_value u)])), (q 1, .inl (cI, 400, .inl (g8_bytes u))), (q 2, .inr (6, [.ref (q 3), .int (g6_size (g8_draft u)), .int (g6_ran (g8_draft u))])), (q 3, .inl (cI, 96, .inl (g6_parts (g8_draft u))))]
/-! AheadStore$World -/
abbrev S9 : Type := S2 × S3 × S5 × S0 × S7 × S6 × Int32 × Int32 × Int32 × Int32 × Int32
abbrev g9_journal (u : S9) : S2 := u.1
abbrev g9_pages (u : S9) : S3 := u.2.1
abbrev g9_roster (u : S9) : S5 := u.2.2.1
abbrev g9_claims (u : S9) : S0 := u.2.2.2.1
abbrev g9_standby (u : S9) : S7 := u.2.2.2.2.1
abbrev g9_script (u : S9) : S6 := u.2.2.2.2.2.1
abbrev g9_up (u : S9) : Int32 := u.2.2.2.2.2.2.1
abbrev g9_master (u : S9) : Int32 := u.2.2.2.2.2.2.2.1
abbrev g9_openCheck (u : S9) : Int32 := u.2.2.2.2.2.2.2.2.1
abbrev g9_redone (u : S9) : Int32 := u.2.2.2.2.2.2.2.2.2.1
abbrev g9_crashes (u : S9) : Int32 := u.2.2.2.2.2.2.2.2.2.2
abbrev s9_journal (u : S9) (v : S2) : S9 := (v, u.2)
abbrev s9_pages (u : S9) (v : S3) : S9 := (u.1, v, u.2.2)
abbrev s9_roster (u : S9) (v : S5) : S9 := (u.1, u.2.1, v, u.2.2.2)
abbrev s9_claims (u : S9) (v : S0) : S9 := (u.1, u.2.1, u.2.2.1, v, u.2.2.2.2)
abbrev s9_standby (u : S9) (v : S7) : S9 := (u.1, u.2.1, u.2.2.1, u.2.2.2.1, v, u.2.2.2.2.2)
abbrev s9_script (u : S9) (v : S6) : S9 := (u.1, u.2.1, u.2.2.1, u.2.2.2.1, u.2.2.2.2.1, v, u.2.2.2.2.2.2)
abbrev s9_up (u : S9) (v : Int32) : S9 := (u.1, u.2.1, u.2.2.1, u.2.2.2.1, u.2.2.2.2.1, u.2.2.2.2.2.1, v, u.2.2.2.2.2.2.2)
abbrev s9_master (u : S9) (v : Int32) : S9 := (u.1, u.2.1, u.2.2.1, u.2.2.2.1, u.2.2.2.2.1, u.2.2.2.2.2.1, u.2.2.2.2.2.2.1, v, u.2.2.2.2.2.2.2.2)
abbrev s9_openCheck (u : S9) (v : Int32) : S9 := (u.1, u.2.1, u.2.2.1, u.2.2.2.1, u.2.2.2.2.1, u.2.2.2.2.2.1, u.2.2.2.2.2.2.1, u.2.2.2.2.2.2.2.1, v, u.2.2.2.2.2.2.2.2.2)
abbrev s9_redone (u : S9) (v : Int32) : S9 := (u.1, u.2.1, u.2.2.1, u.2.2.2.1, u.2.2.2.2.1, u.2.2.2.2.2.1, u.2.2.2.2.2.2.1, u.2.2.2.2.2.2.2.1, u.2.2.2.2.2.2.2.2.1, v, u.2.2.2.2.2.2.2.2.2.2)
abbrev s9_crashes (u : S9) (v : Int32) : S9 := (u.1, u.2.1, u.2.2.1, u.2.2.2.1, u.2.2.2.2.1, u.2.2.2.2.2.1, u.2.2.2.2.2.2.1, u.2.2.2.2.2.2.2.1, u.2.2.2.2.2.2.2.2.1, u.2.2.2.2.2.2.2.2.2.1, v)
def cs9 (cI : ClassId) (q : Nat → Nat) (u : S9) : va_W := [(q 0, .inr (9, [.ref (q 1), .ref (q 3), .ref (q 13), .ref (q 17), .ref (q 25), .ref (q 28), .int (g9_up u), .int (g9_master u), .int (g9_openCheck u), .int (g9_redone u), .int (g9_crashes u)])), (q 1, .inr (2, [.ref (q 2), .int (g2_endPlace (g9_journal u)), .int (g2_flushedPlace (g9_journal u)), .int (g2_pen (g9_journal u))])), (q 2, .inl (cI, 8600, .inl (g2_row (g9_journal u)))), (q 3, .inr (3, [.ref (q 4), .ref (q 5), .ref (q 6), .ref (q 7), .int (g3_lost (g9_pages u)), .int (g3_frameCount (g9_pages u)), .ref (q 8), .ref (q 9), .ref (q 10), .ref (q 11), .ref (q 12), .int (g3_clock (g9_pages u))])), (q 4, .inl (cI, 256, .inl (g3_disk (g9_pages u)))), (q 5, .inl (cI, 16, .inl (g3_diskStamps (g9_pages u)))), (q 6, .inl (cI, 256, .inl (g3_archive (g9_pages u)))), (q 7, .inl (cI, 16, .inl (g3_archiveStamps (g9_pages u)))), (q 8, .inl (cI, 8, .inl (g3_held (g9_pages u)))), (q 9, .inl (cI, 128, .inl (g3_copies (g9_pages u)))), (q 10, .inl (cI, 8, .inl (g3_stamps (g9_pages u)))), (q 11, .inl (cI, 8, .inl (g3_recs (g9_pages u)))), (q 12, .inl (cI, 8, .inl (g3_uses (g9_pages u)))), (q 13, .inr (5, [.ref (q 14), .ref (q 15), .ref (q 16)])), (q 14, .inl (cI, 10, .inl (g5_is (g9_roster u)))), (q 15, .inl (cI, 10, .inl (g5_last (g9_roster u)))), (q 16, .inl (cI, 10, .inl (g5_cursor (g9_roster u)))), (q 17, .inr (0, [.ref (q 18), .ref (q 19), .ref (q 20), .ref (q 21), .ref (q 22), .ref (q 23), .ref (q 24)])), (q 18, .inl (cI, 256, .inl (g0_wrote (g9_claims u)))), (q 19, .inl (cI, 256, .inl (g0_added (g9_claims u)))), (q 20, .inl (cI, 10, .inl (g0_waits (g9_claims u)))), (q 21, .inl (cI, 10, .inl (g0_saveCount (g9_claims u)))), (q 22, .inl (cI, 10, .inl (g0_topCount (g9_claims u)))), (q 23, .inl (cI, 80, .inl (g0_saves (g9_claims u)))), (q 24, .inl (cI, 40, .inl (g0_tops (g9_claims u)))), (q 25, .inr (7, [.ref (q 26), .ref (q 27), .int (g7_received (g9_standby u)), .int (g7_done (g9_standby u))])), (q 26, .inl (cI, 256, .inl (g7_row (g9_standby u)))), (q 27, .inl (cI, 16, .inl (g7_stamps (g9_standby u)))), (q 28, .inr (6, [.ref (q 29), .int (g6_size (g9_script u)), .int (g6_ran (g9_script u))])), (q 29, .inl (cI, 96, .inl (g6_parts (g9_script u))))]
/-! AheadStore -/
abbrev S10 : Type := S9 × S8 × S4 × S1 × Option Nat × Option Nat
abbrev g10_now (u : S10) : S9 := u.1
abbrev g10_tape (u : S10) : S8 := u.2.1
abbrev g10_recovery (u : S10) : S4 := u.2.2.1
abbrev g10_hindsight (u : S10) : S1 := u.2.2.2.1
abbrev g10_thought (u : S10) : Option Nat := u.2.2.2.2.1
abbrev g10_kept (u : S10) : Option Nat := u.2.2.2.2.2
abbrev s10_now (u : S10) (v : S9) : S10 := (v, u.2)
abbrev s10_tape (u : S10) (v : S8) : S10 := (u.1, v, u.2.2)
abbrev s10_recovery (u : S10) (v : S4) : S10 := (u.1, u.2.1, v, u.2.2.2)
abbrev s10_hindsight (u : S10) (v : S1) : S10 := (u.1, u.2.1, u.2.2.1, v, u.2.2.2.2)
abbrev s10_thought (u : S10) (v : Option Nat) : S10 := (u.1, u.2.1, u.2.2.1, u.2.2.2.1, v, u.2.2.2.2.2)
abbrev s10_kept (u : S10) (v : Option Nat) : S10 := (u.1, u.2.1, u.2.2.1, u.2.2.2.1, u.2.2.2.2.1, v)
def cs10 (cI : ClassId) (q : Nat → Nat) (u : S10) : va_W := [(q 0, .inr (10, [.ref (q 1), .ref (q 31), .ref (q 35), .ref (q 37), va_rf (g10_thought u), va_rf (g10_kept u)])), (q 1, .inr (9, [.ref (q 2), .ref (q 4), .ref (q 14), .ref (q 18), .ref (q 26), .ref (q 29), .int (g9_up (g10_now u)), .int (g9_master (g10_now u)), .int (g9_openCheck (g10_now u)), .int (g9_redone (g10_now u)), .int (g9_crashes (g10_now u))])), (q 2, .inr (2, [.ref (q 3), .int (g2_endPlace (g9_journal (g10_now u))), .int (g2_flushedPlace (g9_journal (g10_now u))), .int (g2_pen (g9_journal (g10_now u)))])), (q 3, .inl (cI, 8600, .inl (g2_row (g9_journal (g10_now u))))), (q 4, .inr (3, [.ref (q 5), .ref (q 6), .ref (q 7), .ref (q 8), .int (g3_lost (g9_pages (g10_now u))), .int (g3_frameCount (g9_pages (g10_now u))), .ref (q 9), .ref (q 10), .ref (q 11), .ref (q 12), .ref (q 13), .int (g3_clock (g9_pages (g10_now u)))])), (q 5, .inl (cI, 256, .inl (g3_disk (g9_pages (g10_now u))))), (q 6, .inl (cI, 16, .inl (g3_diskStamps (g9_pages (g10_now u))))), (q 7, .inl (cI, 256, .inl (g3_archive (g9_pages (g10_now u))))), (q 8, .inl (cI, 16, .inl (g3_archiveStamps (g9_pages (g10_now u))))), (q 9, .inl (cI, 8, .inl (g3_held (g9_pages (g10_now u))))), (q 10, .inl (cI, 128, .inl (g3_copies (g9_pages (g10_now u))))), (q 11, .inl (cI, 8, .inl (g3_stamps (g9_pages (g10_now u))))), (q 12, .inl (cI, 8, .inl (g3_recs (g9_pages (g10_now u))))), (q 13, .inl (cI, 8, .inl (g3_uses (g9_pages (g10_now u))))), (q 14, .inr (5, [.ref (q 15), .ref (q 16), .ref (q 17)])), (q 15, .inl (cI, 10, .inl (g5_is (g9_roster (g10_now u))))), (q 16, .inl (cI, 10, .inl (g5_last (g9_roster (g10_now u))))), (q 17, .inl (cI, 10, .inl (g5_cursor (g9_roster (g10_now u))))), (q 18, .inr (0, [.ref (q 19), .ref (q 20), .ref (q 21), .ref (q 22), .ref (q 23), .ref (q 24), .ref (q 25)])), (q 19, .inl (cI, 256, .inl (g0_wrote (g9_claims (g10_now u))))), (q 20, .inl (cI, 256, .inl (g0_added (g9_claims (g10_now u))))), (q 21, .inl (cI, 10, .inl (g0_waits (g9_claims (g10_now u))))), (q 22, .inl (cI, 10, .inl (g0_saveCount (g9_claims (g10_now u))))), (q 23, .inl (cI, 10, .inl (g0_topCount (g9_claims (g10_now u))))), (q 24, .inl (cI, 80, .inl (g0_saves (g9_claims (g10_now u))))), (q 25, .inl (cI, 40, .inl (g0_tops (g9_claims (g10_now u))))), (q 26, .inr (7, [.ref (q 27), .ref (q 28), .int (g7_received (g9_standby (g10_now u))), .int (g7_done (g9_standby (g10_now u)))])), (q 27, .inl (cI, 256, .inl (g7_row (g9_standby (g10_now u))))), (q 28, .inl (cI, 16, .inl (g7_stamps (g9_standby (g10_now u))))), (q 29, .inr (6, [.ref (q 30), .int (g6_size (g9_script (g10_now u))), .int (g6_ran (g9_script (g10_now u)))])), (q 30, .inl (cI, 96, .inl (g6_parts (g9_script (g10_now u))))), (q 31, .inr (8, [.ref (q 32), .int (g8_size (g10_tape u)), .int (g8_fault (g10_tape u)), .int (g8_faultPlace (g10_tape u)), .ref (q 33), .int (g8_place (g10_tape u)), .int (g8_token (g10_tape u)), .int (g8_tokenPlace (g10_tape u)), .int (g8_value (g10_tape u))])), (q 32, .inl (cI, 400, .inl (g8_bytes (g10_tape u)))), (q 33, .inr (6, [.ref (q 34), .int (g6_size (g8_draft (g10_tape u))), .int (g6_ran (g8_draft (g10_tape u)))])), (q 34, .inl (cI, 96, .inl (g6_parts (g8_draft (g10_tape u))))), (q 35, .inr (4, [.ref (q 36), .int (g4_written (g10_recovery u)), .int (g4_analysed (g10_recovery u)), .int (g4_losers (g10_recovery u)), .int (g4_compensated (g10_recovery u)), .int (g4_ended (g10_recovery u)), .int (g4_redoneInAll (g10_recovery u))])), (q 36, .inl (cI, 16, .inl (g4_unclean (g10_recovery u)))), (q 37, .inr (1, [.ref (q 38)])), (q 38, .inr (5, [.ref (q 39), .ref (q 40), .ref (q 41)])), (q 39, .inl (cI, 10, .inl (g5_is (g1_roster (g10_hindsight u))))), (q 40, .inl (cI, 10, .inl (g5_last (g1_roster (g10_hindsight u))))), (q 41, .inl (cI, 10, .inl (g5_cursor (g1_roster (g10_hindsight u)))))]
/-! AheadStoreModel -/
abbrev S11 : Type := Int32 × (Nat → Int32) × (Nat → Int32) × Int32 × (Nat → Int32) × Int32 × Int32 × Int32 × Int32 × Int32 × (Nat → Int32) × (Nat → Int32) × (Nat → Int32) × (Nat → Int32) × Int32 × Int32 × Int32 × Int32 × Int32 × (Nat → Int32) × Int32 × Int32 × Int32 × Int32 × Int32 × (Nat → Int32) × Int32 × (Nat → Int32)
abbrev g11_told (u : S11) : Int32 := u.1
abbrev g11_now (u : S11) : (Nat → Int32) := u.2.1
abbrev g11_waiting (u : S11) : (Nat → Int32) := u.2.2.1
abbrev g11_laidAt (u : S11) : Int32 := u.2.2.2.1
abbrev g11_unclean (u : S11) : (Nat → Int32) := u.2.2.2.2.1
abbrev g11_losers (u : S11) : Int32 := u.2.2.2.2.2.1
abbrev g11_recovered (u : S11) : Int32 := u.2.2.2.2.2.2.1
abbrev g11_mayWrite (u : S11) : Int32 := u.2.2.2.2.2.2.2.1
abbrev g11_compensated (u : S11) : Int32 := u.2.2.2.2.2.2.2.2.1
abbrev g11_ended (u : S11) : Int32 := u.2.2.2.2.2.2.2.2.2.1
abbrev g11_thoughtRow (u : S11) : (Nat → Int32) := u.2.2.2.2.2.2.2.2.2.2.1
abbrev g11_isThere (u : S11) : (Nat → Int32) := u.2.2.2.2.2.2.2.2.2.2.2.1
abbrev g11_latest (u : S11) : (Nat → Int32) := u.2.2.2.2.2.2.2.2.2.2.2.2.1
abbrev g11_tape (u : S11) : (Nat → Int32) := u.2.2.2.2.2.2.2.2.2.2.2.2.2.1
abbrev g11_taped (u : S11) : Int32 := u.2.2.2.2.2.2.2.2.2.2.2.2.2.2.1
abbrev g11_spot (u : S11) : Int32 := u.2.2.2.2.2.2.2.2.2.2.2.2.2.2.2.1
abbrev g11_from (u : S11) : Int32 := u.2.2.2.2.2.2.2.2.2.2.2.2.2.2.2.2.1
abbrev g11_token (u : S11) : Int32 := u.2.2.2.2.2.2.2.2.2.2.2.2.2.2.2.2.2.1
abbrev g11_value (u : S11) : Int32 := u.2.2.2.2.2.2.2.2.2.2.2.2.2.2.2.2.2.2.1
abbrev g11_words (u : S11) : (Nat → Int32) := u.2.2.2.2.2.2.2.2.2.2.2.2.2.2.2.2.2.2.2.1
abbrev g11_readFault (u : S11) : Int32 := u.2.2.2.2.2.2.2.2.2.2.2.2.2.2.2.2.2.2.2.2.1
abbrev g11_readPlace (u : S11) : Int32 := u.2.2.2.2.2.2.2.2.2.2.2.2.2.2.2.2.2.2.2.2.2.1
abbrev g11_faultKind (u : S11) : Int32 := u.2.2.2.2.2.2.2.2.2.2.2.2.2.2.2.2.2.2.2.2.2.2.1
abbrev g11_faultPlace (u : S11) : Int32 := u.2.2.2.2.2.2.2.2.2.2.2.2.2.2.2.2.2.2.2.2.2.2.2.1
abbrev g11_planMany (u : S11) : Int32 := u.2.2.2.2.2.2.2.2.2.2.2.2.2.2.2.2.2.2.2.2.2.2.2.2.1
abbrev g11_plans (u : S11) : (Nat → Int32) := u.2.2.2.2.2.2.2.2.2.2.2.2.2.2.2.2.2.2.2.2.2.2.2.2.2.1
abbrev g11_hasImage (u : S11) : Int32 := u.2.2.2.2.2.2.2.2.2.2.2.2.2.2.2.2.2.2.2.2.2.2.2.2.2.2.1
abbrev g11_images (u : S11) : (Nat → Int32) := u.2.2.2.2.2.2.2.2.2.2.2.2.2.2.2.2.2.2.2.2.2.2.2.2.2.2.2
abbrev s11_told (u : S11) (v : Int32) : S11 := (v, u.2)
abbrev s11_now (u : S11) (v : (Nat → Int32)) : S11 := (u.1, v, u.2.2)
abbrev s11_waiting (u : S11) (v : (Nat → Int32)) : S11 := (u.1, u.2.1, v, u.2.2.2)
abbrev s11_laidAt (u : S11) (v : Int32) : S11 := (u.1, u.2.1, u.2.2.1, v, u.2.2.2.2)
abbrev s11_unclean (u : S11) (v : (Nat → Int32)) : S11 := (u.1, u.2.1, u.2.2.1, u.2.2.2.1, v, u.2.2.2.2.2)
abbrev s11_losers (u : S11) (v : Int32) : S11 := (u.1, u.2.1, u.2.2.1, u.2.2.2.1, u.2.2.2.2.1, v, u.2.2.2.2.2.2)
abbrev s11_recovered (u : S11) (v : Int32) : S11 := (u.1, u.2.1, u.2.2.1, u.2.2.2.1, u.2.2.2.2.1, u.2.2.2.2.2.1, v, u.2.2.2.2.2.2.2)
abbrev s11_mayWrite (u : S11) (v : Int32) : S11 := (u.1, u.2.1, u.2.2.1, u.2.2.2.1, u.2.2.2.2.1, u.2.2.2.2.2.1, u.2.2.2.2.2.2.1, v, u.2.2.2.2.2.2.2.2)
abbrev s11_compensated (u : S11) (v : Int32) : S11 := (u.1, u.2.1, u.2.2.1, u.2.2.2.1, u.2.2.2.2.1, u.2.2.2.2.2.1, u.2.2.2.2.2.2.1, u.2.2.2.2.2.2.2.1, v, u.2.2.2.2.2.2.2.2.2)
abbrev s11_ended (u : S11) (v : Int32) : S11 := (u.1, u.2.1, u.2.2.1, u.2.2.2.1, u.2.2.2.2.1, u.2.2.2.2.2.1, u.2.2.2.2.2.2.1, u.2.2.2.2.2.2.2.1, u.2.2.2.2.2.2.2.2.1, v, u.2.2.2.2.2.2.2.2.2.2)
abbrev s11_thoughtRow (u : S11) (v : (Nat → Int32)) : S11 := (u.1, u.2.1, u.2.2.1, u.2.2.2.1, u.2.2.2.2.1, u.2.2.2.2.2.1, u.2.2.2.2.2.2.1, u.2.2.2.2.2.2.2.1, u.2.2.2.2.2.2.2.2.1, u.2.2.2.2.2.2.2.2.2.1, v, u.2.2.2.2.2.2.2.2.2.2.2)
abbrev s11_isThere (u : S11) (v : (Nat → Int32)) : S11 := (u.1, u.2.1, u.2.2.1, u.2.2.2.1, u.2.2.2.2.1, u.2.2.2.2.2.1, u.2.2.2.2.2.2.1, u.2.2.2.2.2.2.2.1, u.2.2.2.2.2.2.2.2.1, u.2.2.2.2.2.2.2.2.2.1, u.2.2.2.2.2.2.2.2.2.2.1, v, u.2.2.2.2.2.2.2.2.2.2.2.2)
abbrev s11_latest (u : S11) (v : (Nat → Int32)) : S11 := (u.1, u.2.1, u.2.2.1, u.2.2.2.1, u.2.2.2.2.1, u.2.2.2.2.2.1, u.2.2.2.2.2.2.1, u.2.2.2.2.2.2.2.1, u.2.2.2.2.2.2.2.2.1, u.2.2.2.2.2.2.2.2.2.1, u.2.2.2.2.2.2.2.2.2.2.1, u.2.2.2.2.2.2.2.2.2.2.2.1, v, u.2.2.2.2.2.2.2.2.2.2.2.2.2)
abbrev s11_tape (u : S11) (v : (Nat → Int32)) : S11 := (u.1, u.2.1, u.2.2.1, u.2.2.2.1, u.2.2.2.2.1, u.2.2.2.2.2.1, u.2.2.2.2.2.2.1, u.2.2.2.2.2.2.2.1, u.2.2.2.2.2.2.2.2.1, u.2.2.2.2.2.2.2.2.2.1, u.2.2.2.2.2.2.2.2.2.2.1, u.2.2.2.2.2.2.2.2.2.2.2.1, u.2.2.2.2.2.2.2.2.2.2.2.2.1, v, u.2.2.2.2.2.2.2.2.2.2.2.2.2.2)
abbrev s11_taped (u : S11) (v : Int32) : S11 := (u.1, u.2.1, u.2.2.1, u.2.2.2.1, u.2.2.2.2.1, u.2.2.2.2.2.1, u.2.2.2.2.2.2.1, u.2.2.2.2.2.2.2.1, u.2.2.2.2.2.2.2.2.1, u.2.2.2.2.2.2.2.2.2.1, u.2.2.2.2.2.2.2.2.2.2.1, u.2.2.2.2.2.2.2.2.2.2.2.1, u.2.2.2.2.2.2.2.2.2.2.2.2.1, u.2.2.2.2.2.2.2.2.2.2.2.2.2.1, v, u.2.2.2.2.2.2.2.2.2.2.2.2.2.2.2)
abbrev s11_spot (u : S11) (v : Int32) : S11 := (u.1, u.2.1, u.2.2.1, u.2.2.2.1, u.2.2.2.2.1, u.2.2.2.2.2.1, u.2.2.2.2.2.2.1, u.2.2.2.2.2.2.2.1, u.2.2.2.2.2.2.2.2.1, u.2.2.2.2.2.2.2.2.2.1, u.2.2.2.2.2.2.2.2.2.2.1, u.2.2.2.2.2.2.2.2.2.2.2.1, u.2.2.2.2.2.2.2.2.2.2.2.2.1, u.2.2.2.2.2.2.2.2.2.2.2.2.2.1, u.2.2.2.2.2.2.2.2.2.2.2.2.2.2.1, v, u.2.2.2.2.2.2.2.2.2.2.2.2.2.2.2.2)
abbrev s11_from (u : S11) (v : Int32) : S11 := (u.1, u.2.1, u.2.2.1, u.2.2.2.1, u.2.2.2.2.1, u.2.2.2.2.2.1, u.2.2.2.2.2.2.1, u.2.2.2.2.2.2.2.1, u.2.2.2.2.2.2.2.2.1, u.2.2.2.2.2.2.2.2.2.1, u.2.2.2.2.2.2.2.2.2.2.1, u.2.2.2.2.2.2.2.2.2.2.2.1, u.2.2.2.2.2.2.2.2.2.2.2.2.1, u.2.2.2.2.2.2.2.2.2.2.2.2.2.1, u.2.2.2.2.2.2.2.2.2.2.2.2.2.2.1, u.2.2.2.2.2.2.2.2.2.2.2.2.2.2.2.1, v, u.2.2.2.2.2.2.2.2.2.2.2.2.2.2.2.2.2)
abbrev s11_token (u : S11) (v : Int32) : S11 := (u.1, u.2.1, u.2.2.1, u.2.2.2.1, u.2.2.2.2.1, u.2.2.2.2.2.1, u.2.2.2.2.2.2.1, u.2.2.2.2.2.2.2.1, u.2.2.2.2.2.2.2.2.1, u.2.2.2.2.2.2.2.2.2.1, u.2.2.2.2.2.2.2.2.2.2.1, u.2.2.2.2.2.2.2.2.2.2.2.1, u.2.2.2.2.2.2.2.2.2.2.2.2.1, u.2.2.2.2.2.2.2.2.2.2.2.2.2.1, u.2.2.2.2.2.2.2.2.2.2.2.2.2.2.1, u.2.2.2.2.2.2.2.2.2.2.2.2.2.2.2.1, u.2.2.2.2.2.2.2.2.2.2.2.2.2.2.2.2.1, v, u.2.2.2.2.2.2.2.2.2.2.2.2.2.2.2.2.2.2)
abbrev s11_value (u : S11) (v : Int32) : S11 := (u.1, u.2.1, u.2.2.1, u.2.2.2.1, u.2.2.2.2.1, u.2.2.2.2.2.1, u.2.2.2.2.2.2.1, u.2.2.2.2.2.2.2.1, u.2.2.2.2.2.2.2.2.1, u.2.2.2.2.2.2.2.2.2.1, u.2.2.2.2.2.2.2.2.2.2.1, u.2.2.2.2.2.2.2.2.2.2.2.1, u.2.2.2.2.2.2.2.2.2.2.2.2.1, u.2.2.2.2.2.2.2.2.2.2.2.2.2.1, u.2.2.2.2.2.2.2.2.2.2.2.2.2.2.1, u.2.2.2.2.2.2.2.2.2.2.2.2.2.2.2.1, u.2.2.2.2.2.2.2.2.2.2.2.2.2.2.2.2.1, u.2.2.2.2.2.2.2.2.2.2.2.2.2.2.2.2.2.1, v, u.2.2.2.2.2.2.2.2.2.2.2.2.2.2.2.2.2.2.2)
abbrev s11_words (u : S11) (v : (Nat → Int32)) : S11 := (u.1, u.2.1, u.2.2.1, u.2.2.2.1, u.2.2.2.2.1, u.2.2.2.2.2.1, u.2.2.2.2.2.2.1, u.2.2.2.2.2.2.2.1, u.2.2.2.2.2.2.2.2.1, u.2.2.2.2.2.2.2.2.2.1, u.2.2.2.2.2.2.2.2.2.2.1, u.2.2.2.2.2.2.2.2.2.2.2.1, u.2.2.2.2.2.2.2.2.2.2.2.2.1, u.2.2.2.2.2.2.2.2.2.2.2.2.2.1, u.2.2.2.2.2.2.2.2.2.2.2.2.2.2.1, u.2.2.2.2.2.2.2.2.2.2.2.2.2.2.2.1, u.2.2.2.2.2.2.2.2.2.2.2.2.2.2.2.2.1, u.2.2.2.2.2.2.2.2.2.2.2.2.2.2.2.2.2.1, u.2.2.2.2.2.2.2.2.2.2.2.2.2.2.2.2.2.2.1, v, u.2.2.2.2.2.2.2.2.2.2.2.2.2.2.2.2.2.2.2.2)
abbrev s11_readFault (u : S11) (v : Int32) : S11 := (u.1, u.2.1, u.2.2.1, u.2.2.2.1, u.2.2.2.2.1, u.2.2.2.2.2.1, u.2.2.2.2.2.2.1, u.2.2.2.2.2.2.2.1, u.2.2.2.2.2.2.2.2.1, u.2.2.2.2.2.2.2.2.2.1, u.2.2.2.2.2.2.2.2.2.2.1, u.2.2.2.2.2.2.2.2.2.2.2.1, u.2.2.2.2.2.2.2.2.2.2.2.2.1, u.2.2.2.2.2.2.2.2.2.2.2.2.2.1, u.2.2.2.2.2.2.2.2.2.2.2.2.2.2.1, u.2.2.2.2.2.2.2.2.2.2.2.2.2.2.2.1, u.2.2.2.2.2.2.2.2.2.2.2.2.2.2.2.2.1, u.2.2.2.2.2.2.2.2.2.2.2.2.2.2.2.2.2.1, u.2.2.2.2.2.2.2.2.2.2.2.2.2.2.2.2.2.2.1, u.2.2.2.2.2.2.2.2.2.2.2.2.2.2.2.2.2.2.2.1, v, u.2.2.2.2.2.2.2.2.2.2.2.2.2.2.2.2.2.2.2.2.2)
abbrev s11_readPlace (u : S11) (v : Int32) : S11 := (u.1, u.2.1, u.2.2.1, u.2.2.2.1, u.2.2.2.2.1, u.2.2.2.2.2.1, u.2.2.2.2.2.2.1, u.2.2.2.2.2.2.2.1, u.2.2.2.2.2.2.2.2.1, u.2.2.2.2.2.2.2.2.2.1, u.2.2.2.2.2.2.2.2.2.2.1, u.2.2.2.2.2.2.2.2.2.2.2.1, u.2.2.2.2.2.2.2.2.2.2.2.2.1, u.2.2.2.2.2.2.2.2.2.2.2.2.2.1, u.2.2.2.2.2.2.2.2.2.2.2.2.2.2.1, u.2.2.2.2.2.2.2.2.2.2.2.2.2.2.2.1, u.2.2.2.2.2.2.2.2.2.2.2.2.2.2.2.2.1, u.2.2.2.2.2.2.2.2.2.2.2.2.2.2.2.2.2.1, u.2.2.2.2.2.2.2.2.2.2.2.2.2.2.2.2.2.2.1, u.2.2.2.2.2.2.2.2.2.2.2.2.2.2.2.2.2.2.2.1, u.2.2.2.2.2.2.2.2.2.2.2.2.2.2.2.2.2.2.2.2.1, v, u.2.2.2.2.2.2.2.2.2.2.2.2.2.2.2.2.2.2.2.2.2.2)
abbrev s11_faultKind (u : S11) (v : Int32) : S11 := (u.1, u.2.1, u.2.2.1, u.2.2.2.1, u.2.2.2.2.1, u.2.2.2.2.2.1, u.2.2.2.2.2.2.1, u.2.2.2.2.2.2.2.1, u.2.2.2.2.2.2.2.2.1, u.2.2.2.2.2.2.2.2.2.1, u.2.2.2.2.2.2.2.2.2.2.1, u.2.2.2.2.2.2.2.2.2.2.2.1, u.2.2.2.2.2.2.2.2.2.2.2.2.1, u.2.2.2.2.2.2.2.2.2.2.2.2.2.1, u.2.2.2.2.2.2.2.2.2.2.2.2.2.2.1, u.2.2.2.2.2.2.2.2.2.2.2.2.2.2.2.1, u.2.2.2.2.2.2.2.2.2.2.2.2.2.2.2.2.1, u.2.2.2.2.2.2.2.2.2.2.2.2.2.2.2.2.2.1, u.2.2.2.2.2.2.2.2.2.2.2.2.2.2.2.2.2.2.1, u.2.2.2.2.2.2.2.2.2.2.2.2.2.2.2.2.2.2.2.1, u.2.2.2.2.2.2.2.2.2.2.2.2.2.2.2.2.2.2.2.2.1, u.2.2.2.2.2.2.2.2.2.2.2.2.2.2.2.2.2.2.2.2.2.1, v, u.2.2.2.2.2.2.2.2.2.2.2.2.2.2.2.2.2.2.2.2.2.2.2)
abbrev s11_faultPlace (u : S11) (v : Int32) : S11 := (u.1, u.2.1, u.2.2.1, u.2.2.2.1, u.2.2.2.2.1, u.2.2.2.2.2.1, u.2.2.2.2.2.2.1, u.2.2.2.2.2.2.2.1, u.2.2.2.2.2.2.2.2.1, u.2.2.2.2.2.2.2.2.2.1, u.2.2.2.2.2.2.2.2.2.2.1, u.2.2.2.2.2.2.2.2.2.2.2.1, u.2.2.2.2.2.2.2.2.2.2.2.2.1, u.2.2.2.2.2.2.2.2.2.2.2.2.2.1, u.2.2.2.2.2.2.2.2.2.2.2.2.2.2.1, u.2.2.2.2.2.2.2.2.2.2.2.2.2.2.2.1, u.2.2.2.2.2.2.2.2.2.2.2.2.2.2.2.2.1, u.2.2.2.2.2.2.2.2.2.2.2.2.2.2.2.2.2.1, u.2.2.2.2.2.2.2.2.2.2.2.2.2.2.2.2.2.2.1, u.2.2.2.2.2.2.2.2.2.2.2.2.2.2.2.2.2.2.2.1, u.2.2.2.2.2.2.2.2.2.2.2.2.2.2.2.2.2.2.2.2.1, u.2.2.2.2.2.2.2.2.2.2.2.2.2.2.2.2.2.2.2.2.2.1, u.2.2.2.2.2.2.2.2.2.2.2.2.2.2.2.2.2.2.2.2.2.2.1, v, u.2.2.2.2.2.2.2.2.2.2.2.2.2.2.2.2.2.2.2.2.2.2.2.2)
abbrev s11_planMany (u : S11) (v : Int32) : S11 := (u.1, u.2.1, u.2.2.1, u.2.2.2.1, u.2.2.2.2.1, u.2.2.2.2.2.1, u.2.2.2.2.2.2.1, u.2.2.2.2.2.2.2.1, u.2.2.2.2.2.2.2.2.1, u.2.2.2.2.2.2.2.2.2.1, u.2.2.2.2.2.2.2.2.2.2.1, u.2.2.2.2.2.2.2.2.2.2.2.1, u.2.2.2.2.2.2.2.2.2.2.2.2.1, u.2.2.2.2.2.2.2.2.2.2.2.2.2.1, u.2.2.2.2.2.2.2.2.2.2.2.2.2.2.1, u.2.2.2.2.2.2.2.2.2.2.2.2.2.2.2.1, u.2.2.2.2.2.2.2.2.2.2.2.2.2.2.2.2.1, u.2.2.2.2.2.2.2.2.2.2.2.2.2.2.2.2.2.1, u.2.2.2.2.2.2.2.2.2.2.2.2.2.2.2.2.2.2.1, u.2.2.2.2.2.2.2.2.2.2.2.2.2.2.2.2.2.2.2.1, u.2.2.2.2.2.2.2.2.2.2.2.2.2.2.2.2.2.2.2.2.1, u.2.2.2.2.2.2.2.2.2.2.2.2.2.2.2.2.2.2.2.2.2.1, u.2.2.2.2.2.2.2.2.2.2.2.2.2.2.2.2.2.2.2.2.2.2.1, u.2.2.2.2.2.2.2.2.2.2.2.2.2.2.2.2.2.2.2.2.2.2.2.1, v, u.2.2.2.2.2.2.2.2.2.2.2.2.2.2.2.2.2.2.2.2.2.2.2.2.2)
abbrev s11_plans (u : S11) (v : (Nat → Int32)) : S11 := (u.1, u.2.1, u.2.2.1, u.2.2.2.1, u.2.2.2.2.1, u.2.2.2.2.2.1, u.2.2.2.2.2.2.1, u.2.2.2.2.2.2.2.1, u.2.2.2.2.2.2.2.2.1, u.2.2.2.2.2.2.2.2.2.1, u.2.2.2.2.2.2.2.2.2.2.1, u.2.2.2.2.2.2.2.2.2.2.2.1, u.2.2.2.2.2.2.2.2.2.2.2.2.1, u.2.2.2.2.2.2.2.2.2.2.2.2.2.1, u.2.2.2.2.2.2.2.2.2.2.2.2.2.2.1, u.2.2.2.2.2.2.2.2.2.2.2.2.2.2.2.1, u.2.2.2.2.2.2.2.2.2.2.2.2.2.2.2.2.1, u.2.2.2.2.2.2.2.2.2.2.2.2.2.2.2.2.2.1, u.2.2.2.2.2.2.2.2.2.2.2.2.2.2.2.2.2.2.1, u.2.2.2.2.2.2.2.2.2.2.2.2.2.2.2.2.2.2.2.1, u.2.2.2.2.2.2.2.2.2.2.2.2.2.2.2.2.2.2.2.2.1, u.2.2.2.2.2.2.2.2.2.2.2.2.2.2.2.2.2.2.2.2.2.1, u.2.2.2.2.2.2.2.2.2.2.2.2.2.2.2.2.2.2.2.2.2.2.1, u.2.2.2.2.2.2.2.2.2.2.2.2.2.2.2.2.2.2.2.2.2.2.2.1, u.2.2.2.2.2.2.2.2.2.2.2.2.2.2.2.2.2.2.2.2.2.2.2.2.1, v, u.2.2.2.2.2.2.2.2.2.2.2.2.2.2.2.2.2.2.2.2.2.2.2.2.2.2)
abbrev s11_hasImage (u : S11) (v : Int32) : S11 := (u.1, u.2.1, u.2.2.1, u.2.2.2.1, u.2.2.2.2.1, u.2.2.2.2.2.1, u.2.2.2.2.2.2.1, u.2.2.2.2.2.2.2.1, u.2.2.2.2.2.2.2.2.1, u.2.2.2.2.2.2.2.2.2.1, u.2.2.2.2.2.2.2.2.2.2.1, u.2.2.2.2.2.2.2.2.2.2.2.1, u.2.2.2.2.2.2.2.2.2.2.2.2.1, u.2.2.2.2.2.2.2.2.2.2.2.2.2.1, u.2.2.2.2.2.2.2.2.2.2.2.2.2.2.1, u.2.2.2.2.2.2.2.2.2.2.2.2.2.2.2.1, u.2.2.2.2.2.2.2.2.2.2.2.2.2.2.2.2.1, u.2.2.2.2.2.2.2.2.2.2.2.2.2.2.2.2.2.1, u.2.2.2.2.2.2.2.2.2.2.2.2.2.2.2.2.2.2.1, u.2.2.2.2.2.2.2.2.2.2.2.2.2.2.2.2.2.2.2.1, u.2.2.2.2.2.2.2.2.2.2.2.2.2.2.2.2.2.2.2.2.1, u.2.2.2.2.2.2.2.2.2.2.2.2.2.2.2.2.2.2.2.2.2.1, u.2.2.2.2.2.2.2.2.2.2.2.2.2.2.2.2.2.2.2.2.2.2.1, u.2.2.2.2.2.2.2.2.2.2.2.2.2.2.2.2.2.2.2.2.2.2.2.1, u.2.2.2.2.2.2.2.2.2.2.2.2.2.2.2.2.2.2.2.2.2.2.2.2.1, u.2.2.2.2.2.2.2.2.2.2.2.2.2.2.2.2.2.2.2.2.2.2.2.2.2.1, v, u.2.2.2.2.2.2.2.2.2.2.2.2.2.2.2.2.2.2.2.2.2.2.2.2.2.2.2)
abbrev s11_images (u : S11) (v : (Nat → Int32)) : S11 := (u.1, u.2.1, u.2.2.1, u.2.2.2.1, u.2.2.2.2.1, u.2.2.2.2.2.1, u.2.2.2.2.2.2.1, u.2.2.2.2.2.2.2.1, u.2.2.2.2.2.2.2.2.1, u.2.2.2.2.2.2.2.2.2.1, u.2.2.2.2.2.2.2.2.2.2.1, u.2.2.2.2.2.2.2.2.2.2.2.1, u.2.2.2.2.2.2.2.2.2.2.2.2.1, u.2.2.2.2.2.2.2.2.2.2.2.2.2.1, u.2.2.2.2.2.2.2.2.2.2.2.2.2.2.1, u.2.2.2.2.2.2.2.2.2.2.2.2.2.2.2.1, u.2.2.2.2.2.2.2.2.2.2.2.2.2.2.2.2.1, u.2.2.2.2.2.2.2.2.2.2.2.2.2.2.2.2.2.1, u.2.2.2.2.2.2.2.2.2.2.2.2.2.2.2.2.2.2.1, u.2.2.2.2.2.2.2.2.2.2.2.2.2.2.2.2.2.2.2.1, u.2.2.2.2.2.2.2.2.2.2.2.2.2.2.2.2.2.2.2.2.1, u.2.2.2.2.2.2.2.2.2.2.2.2.2.2.2.2.2.2.2.2.2.1, u.2.2.2.2.2.2.2.2.2.2.2.2.2.2.2.2.2.2.2.2.2.2.1, u.2.2.2.2.2.2.2.2.2.2.2.2.2.2.2.2.2.2.2.2.2.2.2.1, u.2.2.2.2.2.2.2.2.2.2.2.2.2.2.2.2.2.2.2.2.2.2.2.2.1, u.2.2.2.2.2.2.2.2.2.2.2.2.2.2.2.2.2.2.2.2.2.2.2.2.2.1, u.2.2.2.2.2.2.2.2.2.2.2.2.2.2.2.2.2.2.2.2.2.2.2.2.2.2.1, v)
def cs11 (cI : ClassId) (q : Nat → Nat) (u : S11) : va_W := [(q 0, .inr (11, [.int (g11_told u), .ref (q 1), .ref (q 2), .int (g11_laidAt u), .ref (q 3), .int (g11_losers u), .int (g11_recovered u), .int (g11_mayWrite u), .int (g11_compensated u), .int (g11_ended u), .ref (q 4), .ref (q 5), .ref (q 6), .ref (q 7), .int (g11_taped u), .int (g11_spot u), .int (g11_from u), .int (g11_token u), .int (g11_value u), .ref (q 8), .int (g11_readFault u), .int (g11_readPlace u), .int (g11_faultKind u), .int (g11_faultPlace u), .int (g11_planMany u), .ref (q 9), .int (g11_hasImage u), .ref (q 10)])), (q 1, .inl (cI, 10700, .inl (g11_now u))), (q 2, .inl (cI, 10700, .inl (g11_waiting u))), (q 3, .inl (cI, 16, .inl (g11_unclean u))), (q 4, .inl (cI, 256, .inl (g11_thoughtRow u))), (q 5, .inl (cI, 10, .inl (g11_isThere u))), (q 6, .inl (cI, 10, .inl (g11_latest u))), (q 7, .inl (cI, 400, .inl (g11_tape u))), (q 8, .inl (cI, 78, .inl (g11_words u))), (q 9, .inl (cI, 192, .inl (g11_plans u))), (q 10, .inl (cI, 10797, .inl (g11_images u)))]
def st_WORDS : Nat → Int32 := fun j => ([98, 101, 103, 105, 110, 32, 119, 114, 105, 116, 101, 32, 97, 100, 100, 32, 115, 97, 118, 101, 32, 98, 97, 99, 107, 32, 111, 112, 101, 110, 32, 99, 108, 111, 115, 101, 32, 99, 111, 109, 109, 105, 116, 32, 97, 98, 111, 114, 116, 32, 114, 111, 108, 108, 32, 102, 108, 117, 115, 104, 32, 112, 97, 103, 101, 32, 99, 104, 101, 99, 107, 32, 111, 118, 101, 114, 32] : List Int32).getD j 0
def st_LENGTHS : Nat → Int32 := fun j => ([0, 6, 9, 8, 11, 6, 6, 6, 6, 8] : List Int32).getD j 0
def st_OPERANDS : Nat → Int32 := fun j => ([0, 2, 2, 0, 1, 0, 0, 0, 0, 1, 0, 1, 0, 0] : List Int32).getD j 0
def st_LEAST : Nat → Int32 := fun j => ([0, 0, 1, 0, 0, 0, 0, 0, 0, 1, 0, 0, 0, 0] : List Int32).getD j 0
def st_MOST : Nat → Int32 := fun j => ([0, 255, 255, 0, 7, 0, 0, 0, 0, 9, 0, 15, 0, 0] : List Int32).getD j 0
def nwM : List (String × Nat × MethodName × String) := [(RX1, 11, yX5_init, "AheadStore"), (RX10, 9, yX9_init, "AheadStore"), (RX10, 18, yX8_init, "AheadStore"), (RX10, 25, yX4_init, "AheadStore"), (RX10, 32, yX1_init, "AheadStore"), (RX3, 73, yX10_isPage, "AheadStore"), (RX4, 148, yX10_isPage, "AheadStore"), (RX5, 37, yX10_isParty, "AheadStore"), (RX8, 27, yX6_init, "AheadStore"), (RX9, 11, yX2_init, "AheadStore"), (RX9, 27, yX5_init, "AheadStore"), (RX9, 34, yX0_init, "AheadStore"), (RX9, 41, yX7_init, "AheadStore"), (RX9, 48, yX6_init, "AheadStore"), (RX9, 73, yX10_isParty, "AheadStore"), (RX9, 210, yX10_isPage, "AheadStore")]
def nwF : List (String × Nat × String × String × String × String) := [(RX2, 46, "AheadStore", "LENGTHS", "[I", "AheadStore"), (RX8, 66, "AheadStore", "OPERANDS", "[I", "AheadStore"), (RX8, 69, "AheadStore", "LEAST", "[I", "AheadStore"), (RX8, 72, "AheadStore", "MOST", "[I", "AheadStore")]
def sxA (nm : String) (N : Nat) (f : Nat → Int32) (A : Nat → Prop) (U : State) : Prop := ∃ t : Nat, va_Z "AheadStore" nm "[I" (.ref t) A U U.heap ∧ va_T .int t N (fun j => .int (f j)) A U U.heap
def sxN (U : State) : Prop := (∀ x ∈ nwM, va_Nw (.methodLinkNest x.1 x.2.1 x.2.2.1 x.2.2.2) U) ∧ ∀ x ∈ nwF, va_Nw (.fieldLinkNest x.1 x.2.1 x.2.2.1 x.2.2.2.1 x.2.2.2.2.1 x.2.2.2.2.2) U
def sxE : (Nat → Prop) → State → Prop := fun A U => sxN U ∧ sxA "LENGTHS" 10 st_LENGTHS A U ∧ sxA "OPERANDS" 14 st_OPERANDS A U ∧ sxA "LEAST" 14 st_LEAST A U ∧ sxA "MOST" 14 st_MOST A U

theorem ok_sxA (nm : String) (N : Nat) (f : Nat → Int32) : okE (sxA nm N f) := by
  refine ⟨fun A a U g mk ⟨t, h1, h2⟩ => ⟨t, va_Z.moved (u := U) (Vm.Alike.refl U.vm) h1, va_T.moved (u := U) (Vm.Alike.refl U.vm) h2⟩, fun A B s U ⟨t, h1, h2⟩ hW hh hAB => ⟨t, ?_, ?_⟩⟩
  · exact (va_Z.moved hW.alike ((h1.kept hh))).narrow hAB
  · exact (va_T.moved hW.alike ((h2.kept hh))).narrow hAB
theorem ok_sxN : okE (fun _ U => sxN U) := ⟨fun A a U g mk h => ⟨fun x hx => va_Nw.same rfl (u := U) rfl (h.1 x hx), fun x hx => va_Nw.same rfl (u := U) rfl (h.2 x hx)⟩, fun A B s U h hW hh hAB => ⟨fun x hx => va_Nw.warmM hW (h.1 x hx), fun x hx => va_Nw.warmF hW (h.2 x hx)⟩⟩
theorem ok_sxE : okE sxE := ok_and ok_sxN (ok_and (ok_sxA _ _ _) (ok_and (ok_sxA _ _ _) (ok_and (ok_sxA _ _ _) (ok_sxA _ _ _))))
