-- what holds between the class and the reference
/-- the code of an integer -/
def rf_cd (v : Int64) : Nat := if v = 0 then 8 else if v = 1 then 9 else if -128 ≤ v ∧ v ≤ 127 then 1 else if -32768 ≤ v ∧ v ≤ 32767 then 2 else if -2147483648 ≤ v ∧ v ≤ 2147483647 then 4 else 6
/-- one column of the draft -/
def rf_col (j : Nat) (codes : Nat → Int32) (numbers : Nat → Int64) (blobs : Nat → Int32) (isBlob : Nat → Int32) (integer : Nat → Int64) (size : Nat → Int32) (mblobs : Nat → Int32) : Prop :=
  (isBlob j = 0 ∧ codes j = nI (rf_cd (integer j)) ∧ numbers j = integer j) ∨
  (isBlob j = 1 ∧ ∃ z : Nat, z ≤ 100 ∧ size j = nI z ∧ codes j = nI (12 + 2 * z) ∧ ∀ i, i < z → ∃ b, b < 256 ∧ mblobs (100 * j + i) = nI b ∧ blobs (100 * j + i) = rf_sx b)
def rf_dr (cnt : Int32) (codes : Nat → Int32) (numbers : Nat → Int64) (blobs : Nat → Int32) (cols : Int32) (isBlob : Nat → Int32) (integer : Nat → Int64) (size : Nat → Int32) (mblobs : Nat → Int32) : Prop :=
  ∃ k : Nat, k ≤ 3 ∧ cnt = nI k ∧ cols = nI k ∧ ∀ j, j < k → rf_col j codes numbers blobs isBlob integer size mblobs
/-- up or down, and the arming -/
def rf_ua (xu xa mu ma : Int32) : Prop := xu = mu ∧ (xu = 0 ∨ xu = 1) ∧ xa = ma ∧ ∃ z : Nat, z ≤ 61 ∧ xa + 1 = nI z
/-- a file's pages, in the class and in the reference -/
def rf_pg (bytes : Nat → Int32) (d : Nat → Nat) : Prop := ∀ k, k < 1536 → bytes k = rf_sx (d (k + 64))
def rf_md (arr : Nat → Int32) (d : Nat → Nat) : Prop := ∀ k, k < 1600 → arr k = nI (d k)
def rf_bt (d : Nat → Nat) : Prop := ∀ k, d k < 256
def rf_fl (cnt : Int32) (bytes : Nat → Int32) (arr : Nat → Int32) (c : Nat) (d : Nat → Nat) : Prop := rf_bt d ∧ cnt = nI c ∧ 2 ≤ c ∧ c ≤ 24 ∧ rf_pg bytes d ∧ rf_md arr d
/-- the journal while its head is there: nr records, of the pages pg 0 .. pg (nr - 1), with the bytes rb -/
def rf_jr (headPages headRecords rcnt : Int32) (rbytes recorded : Nat → Int32) (mhp mrec : Int32) (mpage mbytes : Nat → Int32) (od : Nat) : Prop :=
  ∃ (hp nr : Nat) (pg : Nat → Nat) (rb : Nat → Nat → Nat), headPages = nI hp ∧ mhp = nI hp ∧ rcnt = nI hp ∧ 2 ≤ hp ∧ hp ≤ od ∧ headRecords = nI nr ∧ mrec = nI nr ∧ nr ≤ 24 ∧ (∀ r, r < nr → 1 ≤ pg r ∧ pg r ≤ hp ∧ mpage r = nI (pg r)) ∧
    (∀ r r', r < nr → r' < nr → pg r = pg r' → r = r') ∧ (∀ r a, r < nr → a < 64 → rb r a < 256 ∧ mbytes (64 * r + a) = nI (rb r a) ∧ rbytes (64 * (pg r - 1) + a) = rf_sx (rb r a)) ∧ ∀ p, 1 ≤ p → p ≤ 24 → (recorded p = 1 ∧ ∃ r, r < nr ∧ pg r = p) ∨ (recorded p = 0 ∧ ∀ r, r < nr → pg r ≠ p)
def rf_dk (WF : (Nat → Nat) → Prop) (up ncnt : Int32) (nbytes : Nat → Int32) (ht hp hr fcnt : Int32) (fbytes : Nat → Int32) (rcnt : Int32) (rbytes recorded : Nat → Int32) (od mh mhp mrec : Int32) (mnow mdisk mpage mbytes : Nat → Int32) : Prop :=
  ∃ (c : Nat) (d : Nat → Nat), rf_fl fcnt fbytes mdisk c d ∧ od = nI c ∧ mh = ht ∧ (ht = 0 ∨ ht = 1) ∧ (ht = 1 → rf_jr hp hr rcnt rbytes recorded mhp mrec mpage mbytes c) ∧ (up = 1 → ht = 0 ∧ d 65 = c ∧ WF d ∧ ∃ n : Nat → Nat, rf_fl ncnt nbytes mnow (n 65) n ∧ c ≤ n 65 ∧ WF n)
def in_v (WF : (Nat → Nat) → Prop) : iv_T := fun v_x_up v_x_armed v_x_draft_count v_x_draft_codes v_x_draft_numbers v_x_draft_blobs v_x_now_count v_x_now_bytes v_x_before_count v_x_before_bytes v_x_disk_headThere v_x_disk_headPages v_x_disk_headRecords v_x_disk_file_count v_x_disk_file_bytes v_x_disk_records_count v_x_disk_records_bytes v_x_disk_recorded v_x_disk_different v_x_row_length v_x_row_count v_x_row_bytes v_x_row_codes v_x_row_starts v_x_node_count v_x_node_last v_x_node_leaf v_x_node_bytes v_x_node_starts v_x_node_sizes v_x_tree_depth v_x_tree_slot v_x_tree_cellSize v_x_tree_path v_x_tree_slots v_x_tree_cell v_x_tree_waiting v_x_tree_leaves v_x_check_treeSize v_x_check_reached v_x_check_treePages v_x_check_lows v_x_check_highs v_m_onDisk v_m_head v_m_headPages v_m_records v_m_up v_m_armed v_m_columns v_m_length v_m_kind v_m_cells v_m_last v_m_made v_m_deep v_m_at v_m_bad v_m_now v_m_disk v_m_before v_m_recordPage v_m_recordBytes v_m_isBlob v_m_integer v_m_size v_m_blobs v_m_record v_m_cellLength v_m_row v_m_cell v_m_way v_m_turn v_m_used =>
  rf_dr v_x_draft_count v_x_draft_codes v_x_draft_numbers v_x_draft_blobs v_m_columns v_m_isBlob v_m_integer v_m_size v_m_blobs ∧ rf_ua v_x_up v_x_armed v_m_up v_m_armed ∧
  rf_dk WF v_x_up v_x_now_count v_x_now_bytes v_x_disk_headThere v_x_disk_headPages v_x_disk_headRecords v_x_disk_file_count v_x_disk_file_bytes v_x_disk_records_count v_x_disk_records_bytes v_x_disk_recorded v_m_onDisk v_m_head v_m_headPages v_m_records v_m_now v_m_disk v_m_recordPage v_m_recordBytes
