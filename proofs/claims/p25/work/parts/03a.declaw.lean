theorem dL_cell_0 : decode cL_cell 0 = .ok (.iload_n 1, 1) := by decide +kernel
theorem dL_cell_1 : decode cL_cell 1 = .ok (.aload_n 0, 1) := by decide +kernel
theorem dL_cell_2 : decode cL_cell 2 = .ok (.arraylength, 1) := by decide +kernel
theorem dL_cell_3 : decode cL_cell 3 = .ok (.if_icmp .ge 9, 3) := by decide +kernel
theorem dL_cell_6 : decode cL_cell 6 = .ok (.aload_n 0, 1) := by decide +kernel
theorem dL_cell_7 : decode cL_cell 7 = .ok (.iload_n 1, 1) := by decide +kernel
theorem dL_cell_8 : decode cL_cell 8 = .ok (.iaload, 1) := by decide +kernel
theorem dL_cell_9 : decode cL_cell 9 = .ok (.goto 10, 3) := by decide +kernel
theorem dL_cell_12 : decode cL_cell 12 = .ok (.ldc 7, 2) := by decide +kernel
theorem dL_cell_14 : decode cL_cell 14 = .ok (.iload_n 1, 1) := by decide +kernel
theorem dL_cell_15 : decode cL_cell 15 = .ok (.bipush 9, 2) := by decide +kernel
theorem dL_cell_17 : decode cL_cell 17 = .ok (.iadd, 1) := by decide +kernel
theorem dL_cell_18 : decode cL_cell 18 = .ok (.imul, 1) := by decide +kernel
theorem dL_cell_19 : decode cL_cell 19 = .ok (.ireturn, 1) := by decide +kernel
theorem dL_low_0 : decode cL_low 0 = .ok (.iload_n 0, 1) := by decide +kernel
theorem dL_low_1 : decode cL_low 1 = .ok (.iconst 1, 1) := by decide +kernel
theorem dL_low_2 : decode cL_low 2 = .ok (.iushr, 1) := by decide +kernel
theorem dL_low_3 : decode cL_low 3 = .ok (.iload_n 1, 1) := by decide +kernel
theorem dL_low_4 : decode cL_low 4 = .ok (.irem, 1) := by decide +kernel
theorem dL_low_5 : decode cL_low 5 = .ok (.ireturn, 1) := by decide +kernel
theorem dL_table_0 : decode cL_table 0 = .ok (.aload_n 0, 1) := by decide +kernel
theorem dL_table_1 : decode cL_table 1 = .ok (.iload_n 1, 1) := by decide +kernel
theorem dL_table_2 : decode cL_table 2 = .ok (.iload_n 2, 1) := by decide +kernel
theorem dL_table_3 : decode cL_table 3 = .ok (.invokevirtual 8, 3) := by decide +kernel
theorem dL_table_6 : decode cL_table 6 = .ok (.istore_n 3, 1) := by decide +kernel
theorem dL_table_7 : decode cL_table 7 = .ok (.goto 15, 3) := by decide +kernel
theorem dL_table_10 : decode cL_table 10 = .ok (.astore 4, 2) := by decide +kernel
theorem dL_table_12 : decode cL_table 12 = .ok (.sipush (-7200), 3) := by decide +kernel
theorem dL_table_15 : decode cL_table 15 = .ok (.ireturn, 1) := by decide +kernel
theorem dL_table_16 : decode cL_table 16 = .ok (.astore 4, 2) := by decide +kernel
theorem dL_table_18 : decode cL_table 18 = .ok (.sipush (-7300), 3) := by decide +kernel
theorem dL_table_21 : decode cL_table 21 = .ok (.ireturn, 1) := by decide +kernel
theorem dL_table_22 : decode cL_table 22 = .ok (.iload_n 3, 1) := by decide +kernel
theorem dL_table_23 : decode cL_table 23 = .ok (.ireturn, 1) := by decide +kernel
theorem dL_insert_0 : decode cL_insert 0 = .ok (.aload_n 0, 1) := by decide +kernel
theorem dL_insert_1 : decode cL_insert 1 = .ok (.iload_n 1, 1) := by decide +kernel
theorem dL_insert_2 : decode cL_insert 2 = .ok (.iload_n 2, 1) := by decide +kernel
theorem dL_insert_3 : decode cL_insert 3 = .ok (.invokevirtual 18, 3) := by decide +kernel
theorem dL_insert_6 : decode cL_insert 6 = .ok (.istore_n 3, 1) := by decide +kernel
theorem dL_insert_7 : decode cL_insert 7 = .ok (.goto 21, 3) := by decide +kernel
theorem dL_insert_10 : decode cL_insert 10 = .ok (.astore 4, 2) := by decide +kernel
theorem dL_insert_12 : decode cL_insert 12 = .ok (.sipush (-7100), 3) := by decide +kernel
theorem dL_insert_15 : decode cL_insert 15 = .ok (.ireturn, 1) := by decide +kernel
theorem dL_insert_16 : decode cL_insert 16 = .ok (.astore 4, 2) := by decide +kernel
theorem dL_insert_18 : decode cL_insert 18 = .ok (.sipush (-7200), 3) := by decide +kernel
theorem dL_insert_21 : decode cL_insert 21 = .ok (.ireturn, 1) := by decide +kernel
theorem dL_insert_22 : decode cL_insert 22 = .ok (.astore 4, 2) := by decide +kernel
theorem dL_insert_24 : decode cL_insert 24 = .ok (.sipush (-7300), 3) := by decide +kernel
theorem dL_insert_27 : decode cL_insert 27 = .ok (.ireturn, 1) := by decide +kernel
theorem dL_insert_28 : decode cL_insert 28 = .ok (.iload_n 3, 1) := by decide +kernel
theorem dL_insert_29 : decode cL_insert 29 = .ok (.ireturn, 1) := by decide +kernel
theorem dL_delete_0 : decode cL_delete 0 = .ok (.aload_n 0, 1) := by decide +kernel
theorem dL_delete_1 : decode cL_delete 1 = .ok (.iload_n 1, 1) := by decide +kernel
theorem dL_delete_2 : decode cL_delete 2 = .ok (.iload_n 2, 1) := by decide +kernel
theorem dL_delete_3 : decode cL_delete 3 = .ok (.invokevirtual 23, 3) := by decide +kernel
theorem dL_delete_6 : decode cL_delete 6 = .ok (.istore_n 3, 1) := by decide +kernel
theorem dL_delete_7 : decode cL_delete 7 = .ok (.goto 15, 3) := by decide +kernel
theorem dL_delete_10 : decode cL_delete 10 = .ok (.astore 4, 2) := by decide +kernel
theorem dL_delete_12 : decode cL_delete 12 = .ok (.sipush (-7100), 3) := by decide +kernel
theorem dL_delete_15 : decode cL_delete 15 = .ok (.ireturn, 1) := by decide +kernel
theorem dL_delete_16 : decode cL_delete 16 = .ok (.astore 4, 2) := by decide +kernel
theorem dL_delete_18 : decode cL_delete 18 = .ok (.sipush (-7400), 3) := by decide +kernel
theorem dL_delete_21 : decode cL_delete 21 = .ok (.ireturn, 1) := by decide +kernel
theorem dL_delete_22 : decode cL_delete 22 = .ok (.iload_n 3, 1) := by decide +kernel
theorem dL_delete_23 : decode cL_delete 23 = .ok (.ireturn, 1) := by decide +kernel
theorem dL_of_0 : decode cL_of 0 = .ok (.aload_n 0, 1) := by decide +kernel
theorem dL_of_1 : decode cL_of 1 = .ok (.iload_n 1, 1) := by decide +kernel
theorem dL_of_2 : decode cL_of 2 = .ok (.invokevirtual 28, 3) := by decide +kernel
theorem dL_of_5 : decode cL_of 5 = .ok (.istore_n 2, 1) := by decide +kernel
theorem dL_of_6 : decode cL_of 6 = .ok (.goto 13, 3) := by decide +kernel
theorem dL_of_9 : decode cL_of 9 = .ok (.astore_n 3, 1) := by decide +kernel
theorem dL_of_10 : decode cL_of 10 = .ok (.sipush (-7100), 3) := by decide +kernel
theorem dL_of_13 : decode cL_of 13 = .ok (.ireturn, 1) := by decide +kernel
theorem dL_of_14 : decode cL_of 14 = .ok (.astore_n 3, 1) := by decide +kernel
theorem dL_of_15 : decode cL_of 15 = .ok (.sipush (-7300), 3) := by decide +kernel
theorem dL_of_18 : decode cL_of 18 = .ok (.ireturn, 1) := by decide +kernel
theorem dL_of_19 : decode cL_of 19 = .ok (.iload_n 2, 1) := by decide +kernel
theorem dL_of_20 : decode cL_of 20 = .ok (.ireturn, 1) := by decide +kernel
theorem dL_select_0 : decode cL_select 0 = .ok (.aload_n 0, 1) := by decide +kernel
theorem dL_select_1 : decode cL_select 1 = .ok (.iload_n 1, 1) := by decide +kernel
theorem dL_select_2 : decode cL_select 2 = .ok (.iload_n 2, 1) := by decide +kernel
theorem dL_select_3 : decode cL_select 3 = .ok (.iload_n 3, 1) := by decide +kernel
theorem dL_select_4 : decode cL_select 4 = .ok (.iload 4, 2) := by decide +kernel
theorem dL_select_6 : decode cL_select 6 = .ok (.invokevirtual 32, 3) := by decide +kernel
theorem dL_select_9 : decode cL_select 9 = .ok (.istore 5, 2) := by decide +kernel
theorem dL_select_11 : decode cL_select 11 = .ok (.goto 21, 3) := by decide +kernel
theorem dL_select_14 : decode cL_select 14 = .ok (.astore 6, 2) := by decide +kernel
theorem dL_select_16 : decode cL_select 16 = .ok (.sipush (-7100), 3) := by decide +kernel
theorem dL_select_19 : decode cL_select 19 = .ok (.ireturn, 1) := by decide +kernel
theorem dL_select_20 : decode cL_select 20 = .ok (.astore 6, 2) := by decide +kernel
theorem dL_select_22 : decode cL_select 22 = .ok (.sipush (-7200), 3) := by decide +kernel
theorem dL_select_25 : decode cL_select 25 = .ok (.ireturn, 1) := by decide +kernel
theorem dL_select_26 : decode cL_select 26 = .ok (.astore 6, 2) := by decide +kernel
theorem dL_select_28 : decode cL_select 28 = .ok (.sipush (-7300), 3) := by decide +kernel
theorem dL_select_31 : decode cL_select 31 = .ok (.ireturn, 1) := by decide +kernel
theorem dL_select_32 : decode cL_select 32 = .ok (.iload 5, 2) := by decide +kernel
theorem dL_select_34 : decode cL_select 34 = .ok (.ireturn, 1) := by decide +kernel
theorem dL_drop_0 : decode cL_drop 0 = .ok (.aload_n 0, 1) := by decide +kernel
theorem dL_drop_1 : decode cL_drop 1 = .ok (.iload_n 1, 1) := by decide +kernel
theorem dL_drop_2 : decode cL_drop 2 = .ok (.iload_n 2, 1) := by decide +kernel
theorem dL_drop_3 : decode cL_drop 3 = .ok (.iload_n 3, 1) := by decide +kernel
theorem dL_drop_4 : decode cL_drop 4 = .ok (.invokevirtual 36, 3) := by decide +kernel
theorem dL_drop_7 : decode cL_drop 7 = .ok (.istore 4, 2) := by decide +kernel
theorem dL_drop_9 : decode cL_drop 9 = .ok (.goto 21, 3) := by decide +kernel
theorem dL_drop_12 : decode cL_drop 12 = .ok (.astore 5, 2) := by decide +kernel
theorem dL_drop_14 : decode cL_drop 14 = .ok (.sipush (-7100), 3) := by decide +kernel
theorem dL_drop_17 : decode cL_drop 17 = .ok (.ireturn, 1) := by decide +kernel
theorem dL_drop_18 : decode cL_drop 18 = .ok (.astore 5, 2) := by decide +kernel
theorem dL_drop_20 : decode cL_drop 20 = .ok (.sipush (-7200), 3) := by decide +kernel
theorem dL_drop_23 : decode cL_drop 23 = .ok (.ireturn, 1) := by decide +kernel
theorem dL_drop_24 : decode cL_drop 24 = .ok (.astore 5, 2) := by decide +kernel
theorem dL_drop_26 : decode cL_drop 26 = .ok (.sipush (-7300), 3) := by decide +kernel
theorem dL_drop_29 : decode cL_drop 29 = .ok (.ireturn, 1) := by decide +kernel
theorem dL_drop_30 : decode cL_drop 30 = .ok (.iload 4, 2) := by decide +kernel
theorem dL_drop_32 : decode cL_drop 32 = .ok (.ireturn, 1) := by decide +kernel
theorem dL_join_0 : decode cL_join 0 = .ok (.aload_n 0, 1) := by decide +kernel
theorem dL_join_1 : decode cL_join 1 = .ok (.iload_n 1, 1) := by decide +kernel
theorem dL_join_2 : decode cL_join 2 = .ok (.iload_n 2, 1) := by decide +kernel
theorem dL_join_3 : decode cL_join 3 = .ok (.invokevirtual 40, 3) := by decide +kernel
theorem dL_join_6 : decode cL_join 6 = .ok (.istore_n 3, 1) := by decide +kernel
theorem dL_join_7 : decode cL_join 7 = .ok (.goto 21, 3) := by decide +kernel
theorem dL_join_10 : decode cL_join 10 = .ok (.astore 4, 2) := by decide +kernel
theorem dL_join_12 : decode cL_join 12 = .ok (.sipush (-7100), 3) := by decide +kernel
theorem dL_join_15 : decode cL_join 15 = .ok (.ireturn, 1) := by decide +kernel
theorem dL_join_16 : decode cL_join 16 = .ok (.astore 4, 2) := by decide +kernel
theorem dL_join_18 : decode cL_join 18 = .ok (.sipush (-7200), 3) := by decide +kernel
theorem dL_join_21 : decode cL_join 21 = .ok (.ireturn, 1) := by decide +kernel
theorem dL_join_22 : decode cL_join 22 = .ok (.astore 4, 2) := by decide +kernel
theorem dL_join_24 : decode cL_join 24 = .ok (.sipush (-7300), 3) := by decide +kernel
theorem dL_join_27 : decode cL_join 27 = .ok (.ireturn, 1) := by decide +kernel
theorem dL_join_28 : decode cL_join 28 = .ok (.iload_n 3, 1) := by decide +kernel
theorem dL_join_29 : decode cL_join 29 = .ok (.ireturn, 1) := by decide +kernel
theorem dL_columns_0 : decode cL_columns 0 = .ok (.aload_n 0, 1) := by decide +kernel
theorem dL_columns_1 : decode cL_columns 1 = .ok (.iload_n 1, 1) := by decide +kernel
theorem dL_columns_2 : decode cL_columns 2 = .ok (.invokevirtual 43, 3) := by decide +kernel
theorem dL_columns_5 : decode cL_columns 5 = .ok (.istore_n 2, 1) := by decide +kernel
theorem dL_columns_6 : decode cL_columns 6 = .ok (.goto 8, 3) := by decide +kernel
theorem dL_columns_9 : decode cL_columns 9 = .ok (.astore_n 3, 1) := by decide +kernel
theorem dL_columns_10 : decode cL_columns 10 = .ok (.sipush (-7100), 3) := by decide +kernel
theorem dL_columns_13 : decode cL_columns 13 = .ok (.ireturn, 1) := by decide +kernel
theorem dL_columns_14 : decode cL_columns 14 = .ok (.iload_n 2, 1) := by decide +kernel
theorem dL_columns_15 : decode cL_columns 15 = .ok (.ireturn, 1) := by decide +kernel
theorem dL_key_0 : decode cL_key 0 = .ok (.aload_n 0, 1) := by decide +kernel
theorem dL_key_1 : decode cL_key 1 = .ok (.iload_n 1, 1) := by decide +kernel
theorem dL_key_2 : decode cL_key 2 = .ok (.invokevirtual 46, 3) := by decide +kernel
theorem dL_key_5 : decode cL_key 5 = .ok (.istore_n 2, 1) := by decide +kernel
theorem dL_key_6 : decode cL_key 6 = .ok (.goto 8, 3) := by decide +kernel
theorem dL_key_9 : decode cL_key 9 = .ok (.astore_n 3, 1) := by decide +kernel
theorem dL_key_10 : decode cL_key 10 = .ok (.sipush (-7100), 3) := by decide +kernel
theorem dL_key_13 : decode cL_key 13 = .ok (.ireturn, 1) := by decide +kernel
theorem dL_key_14 : decode cL_key 14 = .ok (.iload_n 2, 1) := by decide +kernel
theorem dL_key_15 : decode cL_key 15 = .ok (.ireturn, 1) := by decide +kernel
theorem dL_rows_0 : decode cL_rows 0 = .ok (.aload_n 0, 1) := by decide +kernel
theorem dL_rows_1 : decode cL_rows 1 = .ok (.iload_n 1, 1) := by decide +kernel
theorem dL_rows_2 : decode cL_rows 2 = .ok (.invokevirtual 49, 3) := by decide +kernel
theorem dL_rows_5 : decode cL_rows 5 = .ok (.istore_n 2, 1) := by decide +kernel
theorem dL_rows_6 : decode cL_rows 6 = .ok (.goto 8, 3) := by decide +kernel
theorem dL_rows_9 : decode cL_rows 9 = .ok (.astore_n 3, 1) := by decide +kernel
theorem dL_rows_10 : decode cL_rows 10 = .ok (.sipush (-7100), 3) := by decide +kernel
theorem dL_rows_13 : decode cL_rows 13 = .ok (.ireturn, 1) := by decide +kernel
theorem dL_rows_14 : decode cL_rows 14 = .ok (.iload_n 2, 1) := by decide +kernel
theorem dL_rows_15 : decode cL_rows 15 = .ok (.ireturn, 1) := by decide +kernel
theorem dL_row_0 : decode cL_row 0 = .ok (.aload_n 0, 1) := by decide +kernel
theorem dL_row_1 : decode cL_row 1 = .ok (.iload_n 1, 1) := by decide +kernel
theorem dL_row_2 : decode cL_row 2 = .ok (.iload_n 2, 1) := by decide +kernel
theorem dL_row_3 : decode cL_row 3 = .ok (.invokevirtual 52, 3) := by decide +kernel
theorem dL_row_6 : decode cL_row 6 = .ok (.istore_n 3, 1) := by decide +kernel
theorem dL_row_7 : decode cL_row 7 = .ok (.goto 9, 3) := by decide +kernel
theorem dL_row_10 : decode cL_row 10 = .ok (.astore 4, 2) := by decide +kernel
theorem dL_row_12 : decode cL_row 12 = .ok (.sipush (-7100), 3) := by decide +kernel
theorem dL_row_15 : decode cL_row 15 = .ok (.ireturn, 1) := by decide +kernel
theorem dL_row_16 : decode cL_row 16 = .ok (.iload_n 3, 1) := by decide +kernel
theorem dL_row_17 : decode cL_row 17 = .ok (.ireturn, 1) := by decide +kernel
theorem dL_open_0 : decode cL_open 0 = .ok (.aload_n 0, 1) := by decide +kernel
theorem dL_open_1 : decode cL_open 1 = .ok (.iload_n 1, 1) := by decide +kernel
theorem dL_open_2 : decode cL_open 2 = .ok (.invokevirtual 55, 3) := by decide +kernel
theorem dL_open_5 : decode cL_open 5 = .ok (.istore_n 2, 1) := by decide +kernel
theorem dL_open_6 : decode cL_open 6 = .ok (.goto 8, 3) := by decide +kernel
theorem dL_open_9 : decode cL_open 9 = .ok (.astore_n 3, 1) := by decide +kernel
theorem dL_open_10 : decode cL_open 10 = .ok (.sipush (-7100), 3) := by decide +kernel
theorem dL_open_13 : decode cL_open 13 = .ok (.ireturn, 1) := by decide +kernel
theorem dL_open_14 : decode cL_open 14 = .ok (.iload_n 2, 1) := by decide +kernel
theorem dL_open_15 : decode cL_open 15 = .ok (.ireturn, 1) := by decide +kernel
theorem dL_add_0 : decode cL_add 0 = .ok (.aload_n 0, 1) := by decide +kernel
theorem dL_add_1 : decode cL_add 1 = .ok (.iload_n 1, 1) := by decide +kernel
theorem dL_add_2 : decode cL_add 2 = .ok (.invokevirtual 58, 3) := by decide +kernel
theorem dL_add_5 : decode cL_add 5 = .ok (.istore_n 2, 1) := by decide +kernel
theorem dL_add_6 : decode cL_add 6 = .ok (.goto 13, 3) := by decide +kernel
theorem dL_add_9 : decode cL_add 9 = .ok (.astore_n 3, 1) := by decide +kernel
theorem dL_add_10 : decode cL_add 10 = .ok (.sipush (-7300), 3) := by decide +kernel
theorem dL_add_13 : decode cL_add 13 = .ok (.ireturn, 1) := by decide +kernel
theorem dL_add_14 : decode cL_add 14 = .ok (.astore_n 3, 1) := by decide +kernel
theorem dL_add_15 : decode cL_add 15 = .ok (.sipush (-7200), 3) := by decide +kernel
theorem dL_add_18 : decode cL_add 18 = .ok (.ireturn, 1) := by decide +kernel
theorem dL_add_19 : decode cL_add 19 = .ok (.iload_n 2, 1) := by decide +kernel
theorem dL_add_20 : decode cL_add 20 = .ok (.ireturn, 1) := by decide +kernel
theorem dL_takeOut_0 : decode cL_takeOut 0 = .ok (.aload_n 0, 1) := by decide +kernel
theorem dL_takeOut_1 : decode cL_takeOut 1 = .ok (.iload_n 1, 1) := by decide +kernel
theorem dL_takeOut_2 : decode cL_takeOut 2 = .ok (.invokevirtual 61, 3) := by decide +kernel
theorem dL_takeOut_5 : decode cL_takeOut 5 = .ok (.istore_n 2, 1) := by decide +kernel
theorem dL_takeOut_6 : decode cL_takeOut 6 = .ok (.goto 13, 3) := by decide +kernel
theorem dL_takeOut_9 : decode cL_takeOut 9 = .ok (.astore_n 3, 1) := by decide +kernel
theorem dL_takeOut_10 : decode cL_takeOut 10 = .ok (.sipush (-7300), 3) := by decide +kernel
theorem dL_takeOut_13 : decode cL_takeOut 13 = .ok (.ireturn, 1) := by decide +kernel
theorem dL_takeOut_14 : decode cL_takeOut 14 = .ok (.astore_n 3, 1) := by decide +kernel
theorem dL_takeOut_15 : decode cL_takeOut 15 = .ok (.sipush (-7400), 3) := by decide +kernel
theorem dL_takeOut_18 : decode cL_takeOut 18 = .ok (.ireturn, 1) := by decide +kernel
theorem dL_takeOut_19 : decode cL_takeOut 19 = .ok (.iload_n 2, 1) := by decide +kernel
theorem dL_takeOut_20 : decode cL_takeOut 20 = .ok (.ireturn, 1) := by decide +kernel
theorem dL_change_0 : decode cL_change 0 = .ok (.aload_n 0, 1) := by decide +kernel
theorem dL_change_1 : decode cL_change 1 = .ok (.iload_n 1, 1) := by decide +kernel
theorem dL_change_2 : decode cL_change 2 = .ok (.iload_n 2, 1) := by decide +kernel
theorem dL_change_3 : decode cL_change 3 = .ok (.iload_n 3, 1) := by decide +kernel
theorem dL_change_4 : decode cL_change 4 = .ok (.invokevirtual 64, 3) := by decide +kernel
theorem dL_change_7 : decode cL_change 7 = .ok (.istore 4, 2) := by decide +kernel
theorem dL_change_9 : decode cL_change 9 = .ok (.goto 21, 3) := by decide +kernel
theorem dL_change_12 : decode cL_change 12 = .ok (.astore 5, 2) := by decide +kernel
theorem dL_change_14 : decode cL_change 14 = .ok (.sipush (-7300), 3) := by decide +kernel
theorem dL_change_17 : decode cL_change 17 = .ok (.ireturn, 1) := by decide +kernel
theorem dL_change_18 : decode cL_change 18 = .ok (.astore 5, 2) := by decide +kernel
theorem dL_change_20 : decode cL_change 20 = .ok (.sipush (-7200), 3) := by decide +kernel
theorem dL_change_23 : decode cL_change 23 = .ok (.ireturn, 1) := by decide +kernel
theorem dL_change_24 : decode cL_change 24 = .ok (.astore 5, 2) := by decide +kernel
theorem dL_change_26 : decode cL_change 26 = .ok (.sipush (-7400), 3) := by decide +kernel
theorem dL_change_29 : decode cL_change 29 = .ok (.ireturn, 1) := by decide +kernel
theorem dL_change_30 : decode cL_change 30 = .ok (.iload 4, 2) := by decide +kernel
theorem dL_change_32 : decode cL_change 32 = .ok (.ireturn, 1) := by decide +kernel
theorem dL_draftRow_0 : decode cL_draftRow 0 = .ok (.aload_n 0, 1) := by decide +kernel
theorem dL_draftRow_1 : decode cL_draftRow 1 = .ok (.iload_n 1, 1) := by decide +kernel
theorem dL_draftRow_2 : decode cL_draftRow 2 = .ok (.invokevirtual 67, 3) := by decide +kernel
theorem dL_draftRow_5 : decode cL_draftRow 5 = .ok (.istore_n 2, 1) := by decide +kernel
theorem dL_draftRow_6 : decode cL_draftRow 6 = .ok (.goto 13, 3) := by decide +kernel
theorem dL_draftRow_9 : decode cL_draftRow 9 = .ok (.astore_n 3, 1) := by decide +kernel
theorem dL_draftRow_10 : decode cL_draftRow 10 = .ok (.sipush (-7300), 3) := by decide +kernel
theorem dL_draftRow_13 : decode cL_draftRow 13 = .ok (.ireturn, 1) := by decide +kernel
theorem dL_draftRow_14 : decode cL_draftRow 14 = .ok (.astore_n 3, 1) := by decide +kernel
theorem dL_draftRow_15 : decode cL_draftRow 15 = .ok (.sipush (-7100), 3) := by decide +kernel
theorem dL_draftRow_18 : decode cL_draftRow 18 = .ok (.ireturn, 1) := by decide +kernel
theorem dL_draftRow_19 : decode cL_draftRow 19 = .ok (.iload_n 2, 1) := by decide +kernel
theorem dL_draftRow_20 : decode cL_draftRow 20 = .ok (.ireturn, 1) := by decide +kernel
theorem dL_conflict_0 : decode cL_conflict 0 = .ok (.aload_n 0, 1) := by decide +kernel
theorem dL_conflict_1 : decode cL_conflict 1 = .ok (.invokevirtual 70, 3) := by decide +kernel
theorem dL_conflict_4 : decode cL_conflict 4 = .ok (.istore_n 1, 1) := by decide +kernel
theorem dL_conflict_5 : decode cL_conflict 5 = .ok (.goto 8, 3) := by decide +kernel
theorem dL_conflict_8 : decode cL_conflict 8 = .ok (.astore_n 2, 1) := by decide +kernel
theorem dL_conflict_9 : decode cL_conflict 9 = .ok (.sipush (-7300), 3) := by decide +kernel
theorem dL_conflict_12 : decode cL_conflict 12 = .ok (.ireturn, 1) := by decide +kernel
theorem dL_conflict_13 : decode cL_conflict 13 = .ok (.iload_n 1, 1) := by decide +kernel
theorem dL_conflict_14 : decode cL_conflict 14 = .ok (.ireturn, 1) := by decide +kernel
theorem dL_conflictRow_0 : decode cL_conflictRow 0 = .ok (.aload_n 0, 1) := by decide +kernel
theorem dL_conflictRow_1 : decode cL_conflictRow 1 = .ok (.iload_n 1, 1) := by decide +kernel
theorem dL_conflictRow_2 : decode cL_conflictRow 2 = .ok (.invokevirtual 74, 3) := by decide +kernel
theorem dL_conflictRow_5 : decode cL_conflictRow 5 = .ok (.istore_n 2, 1) := by decide +kernel
theorem dL_conflictRow_6 : decode cL_conflictRow 6 = .ok (.goto 13, 3) := by decide +kernel
theorem dL_conflictRow_9 : decode cL_conflictRow 9 = .ok (.astore_n 3, 1) := by decide +kernel
theorem dL_conflictRow_10 : decode cL_conflictRow 10 = .ok (.sipush (-7300), 3) := by decide +kernel
theorem dL_conflictRow_13 : decode cL_conflictRow 13 = .ok (.ireturn, 1) := by decide +kernel
theorem dL_conflictRow_14 : decode cL_conflictRow 14 = .ok (.astore_n 3, 1) := by decide +kernel
theorem dL_conflictRow_15 : decode cL_conflictRow 15 = .ok (.sipush (-7200), 3) := by decide +kernel
theorem dL_conflictRow_18 : decode cL_conflictRow 18 = .ok (.ireturn, 1) := by decide +kernel
theorem dL_conflictRow_19 : decode cL_conflictRow 19 = .ok (.iload_n 2, 1) := by decide +kernel
theorem dL_conflictRow_20 : decode cL_conflictRow 20 = .ok (.ireturn, 1) := by decide +kernel
theorem dL_changes_0 : decode cL_changes 0 = .ok (.aload_n 0, 1) := by decide +kernel
theorem dL_changes_1 : decode cL_changes 1 = .ok (.invokevirtual 77, 3) := by decide +kernel
theorem dL_changes_4 : decode cL_changes 4 = .ok (.istore_n 1, 1) := by decide +kernel
theorem dL_changes_5 : decode cL_changes 5 = .ok (.goto 8, 3) := by decide +kernel
theorem dL_changes_8 : decode cL_changes 8 = .ok (.astore_n 2, 1) := by decide +kernel
theorem dL_changes_9 : decode cL_changes 9 = .ok (.sipush (-7300), 3) := by decide +kernel
theorem dL_changes_12 : decode cL_changes 12 = .ok (.ireturn, 1) := by decide +kernel
theorem dL_changes_13 : decode cL_changes 13 = .ok (.iload_n 1, 1) := by decide +kernel
theorem dL_changes_14 : decode cL_changes 14 = .ok (.ireturn, 1) := by decide +kernel
theorem dL_fewest_0 : decode cL_fewest 0 = .ok (.aload_n 0, 1) := by decide +kernel
theorem dL_fewest_1 : decode cL_fewest 1 = .ok (.invokevirtual 80, 3) := by decide +kernel
theorem dL_fewest_4 : decode cL_fewest 4 = .ok (.istore_n 1, 1) := by decide +kernel
theorem dL_fewest_5 : decode cL_fewest 5 = .ok (.goto 8, 3) := by decide +kernel
theorem dL_fewest_8 : decode cL_fewest 8 = .ok (.astore_n 2, 1) := by decide +kernel
theorem dL_fewest_9 : decode cL_fewest 9 = .ok (.sipush (-7300), 3) := by decide +kernel
theorem dL_fewest_12 : decode cL_fewest 12 = .ok (.ireturn, 1) := by decide +kernel
theorem dL_fewest_13 : decode cL_fewest 13 = .ok (.iload_n 1, 1) := by decide +kernel
theorem dL_fewest_14 : decode cL_fewest 14 = .ok (.ireturn, 1) := by decide +kernel
theorem dL_putBack_0 : decode cL_putBack 0 = .ok (.aload_n 0, 1) := by decide +kernel
theorem dL_putBack_1 : decode cL_putBack 1 = .ok (.invokevirtual 83, 3) := by decide +kernel
theorem dL_putBack_4 : decode cL_putBack 4 = .ok (.istore_n 1, 1) := by decide +kernel
theorem dL_putBack_5 : decode cL_putBack 5 = .ok (.goto 8, 3) := by decide +kernel
theorem dL_putBack_8 : decode cL_putBack 8 = .ok (.astore_n 2, 1) := by decide +kernel
theorem dL_putBack_9 : decode cL_putBack 9 = .ok (.sipush (-7300), 3) := by decide +kernel
theorem dL_putBack_12 : decode cL_putBack 12 = .ok (.ireturn, 1) := by decide +kernel
theorem dL_putBack_13 : decode cL_putBack 13 = .ok (.iload_n 1, 1) := by decide +kernel
theorem dL_putBack_14 : decode cL_putBack 14 = .ok (.ireturn, 1) := by decide +kernel
theorem dL_undo_0 : decode cL_undo 0 = .ok (.aload_n 0, 1) := by decide +kernel
theorem dL_undo_1 : decode cL_undo 1 = .ok (.invokevirtual 86, 3) := by decide +kernel
theorem dL_undo_4 : decode cL_undo 4 = .ok (.istore_n 1, 1) := by decide +kernel
theorem dL_undo_5 : decode cL_undo 5 = .ok (.goto 8, 3) := by decide +kernel
theorem dL_undo_8 : decode cL_undo 8 = .ok (.astore_n 2, 1) := by decide +kernel
theorem dL_undo_9 : decode cL_undo 9 = .ok (.sipush (-7300), 3) := by decide +kernel
theorem dL_undo_12 : decode cL_undo 12 = .ok (.ireturn, 1) := by decide +kernel
theorem dL_undo_13 : decode cL_undo 13 = .ok (.iload_n 1, 1) := by decide +kernel
theorem dL_undo_14 : decode cL_undo 14 = .ok (.ireturn, 1) := by decide +kernel
theorem dL_number_0 : decode cL_number 0 = .ok (.iload_n 0, 1) := by decide +kernel
theorem dL_number_1 : decode cL_number 1 = .ok (.iconst 3, 1) := by decide +kernel
theorem dL_number_2 : decode cL_number 2 = .ok (.irem, 1) := by decide +kernel
theorem dL_number_3 : decode cL_number 3 = .ok (.bipush 10, 2) := by decide +kernel
theorem dL_number_5 : decode cL_number 5 = .ok (.iload_n 0, 1) := by decide +kernel
theorem dL_number_6 : decode cL_number 6 = .ok (.iconst 3, 1) := by decide +kernel
theorem dL_number_7 : decode cL_number 7 = .ok (.idiv, 1) := by decide +kernel
theorem dL_number_8 : decode cL_number 8 = .ok (.iconst 3, 1) := by decide +kernel
theorem dL_number_9 : decode cL_number 9 = .ok (.irem, 1) := by decide +kernel
theorem dL_number_10 : decode cL_number 10 = .ok (.imul, 1) := by decide +kernel
theorem dL_number_11 : decode cL_number 11 = .ok (.iadd, 1) := by decide +kernel
theorem dL_number_12 : decode cL_number 12 = .ok (.bipush 100, 2) := by decide +kernel
theorem dL_number_14 : decode cL_number 14 = .ok (.iload_n 0, 1) := by decide +kernel
theorem dL_number_15 : decode cL_number 15 = .ok (.bipush 9, 2) := by decide +kernel
theorem dL_number_17 : decode cL_number 17 = .ok (.idiv, 1) := by decide +kernel
theorem dL_number_18 : decode cL_number 18 = .ok (.imul, 1) := by decide +kernel
theorem dL_number_19 : decode cL_number 19 = .ok (.iadd, 1) := by decide +kernel
theorem dL_number_20 : decode cL_number 20 = .ok (.ireturn, 1) := by decide +kernel
theorem dL_digit_0 : decode cL_digit 0 = .ok (.iload_n 1, 1) := by decide +kernel
theorem dL_digit_1 : decode cL_digit 1 = .ok (.ifCond .ne 9, 3) := by decide +kernel
theorem dL_digit_4 : decode cL_digit 4 = .ok (.iload_n 0, 1) := by decide +kernel
theorem dL_digit_5 : decode cL_digit 5 = .ok (.iconst 3, 1) := by decide +kernel
theorem dL_digit_6 : decode cL_digit 6 = .ok (.irem, 1) := by decide +kernel
theorem dL_digit_7 : decode cL_digit 7 = .ok (.goto 20, 3) := by decide +kernel
theorem dL_digit_10 : decode cL_digit 10 = .ok (.iload_n 1, 1) := by decide +kernel
theorem dL_digit_11 : decode cL_digit 11 = .ok (.iconst 1, 1) := by decide +kernel
theorem dL_digit_12 : decode cL_digit 12 = .ok (.if_icmp .ne 11, 3) := by decide +kernel
theorem dL_digit_15 : decode cL_digit 15 = .ok (.iload_n 0, 1) := by decide +kernel
theorem dL_digit_16 : decode cL_digit 16 = .ok (.iconst 3, 1) := by decide +kernel
theorem dL_digit_17 : decode cL_digit 17 = .ok (.idiv, 1) := by decide +kernel
theorem dL_digit_18 : decode cL_digit 18 = .ok (.iconst 3, 1) := by decide +kernel
theorem dL_digit_19 : decode cL_digit 19 = .ok (.irem, 1) := by decide +kernel
theorem dL_digit_20 : decode cL_digit 20 = .ok (.goto 7, 3) := by decide +kernel
theorem dL_digit_23 : decode cL_digit 23 = .ok (.iload_n 0, 1) := by decide +kernel
theorem dL_digit_24 : decode cL_digit 24 = .ok (.bipush 9, 2) := by decide +kernel
theorem dL_digit_26 : decode cL_digit 26 = .ok (.idiv, 1) := by decide +kernel
theorem dL_digit_27 : decode cL_digit 27 = .ok (.ireturn, 1) := by decide +kernel
theorem dL_unit_0 : decode cL_unit 0 = .ok (.iload_n 0, 1) := by decide +kernel
theorem dL_unit_1 : decode cL_unit 1 = .ok (.ifCond .ne 7, 3) := by decide +kernel
theorem dL_unit_4 : decode cL_unit 4 = .ok (.iconst 1, 1) := by decide +kernel
theorem dL_unit_5 : decode cL_unit 5 = .ok (.goto 14, 3) := by decide +kernel
theorem dL_unit_8 : decode cL_unit 8 = .ok (.iload_n 0, 1) := by decide +kernel
theorem dL_unit_9 : decode cL_unit 9 = .ok (.iconst 1, 1) := by decide +kernel
theorem dL_unit_10 : decode cL_unit 10 = .ok (.if_icmp .ne 7, 3) := by decide +kernel
theorem dL_unit_13 : decode cL_unit 13 = .ok (.iconst 3, 1) := by decide +kernel
theorem dL_unit_14 : decode cL_unit 14 = .ok (.goto 5, 3) := by decide +kernel
theorem dL_unit_17 : decode cL_unit 17 = .ok (.bipush 9, 2) := by decide +kernel
theorem dL_unit_19 : decode cL_unit 19 = .ok (.ireturn, 1) := by decide +kernel
theorem dL_part_0 : decode cL_part 0 = .ok (.iconst 0, 1) := by decide +kernel
theorem dL_part_1 : decode cL_part 1 = .ok (.istore_n 2, 1) := by decide +kernel
theorem dL_part_2 : decode cL_part 2 = .ok (.iconst 0, 1) := by decide +kernel
theorem dL_part_3 : decode cL_part 3 = .ok (.istore_n 3, 1) := by decide +kernel
theorem dL_part_4 : decode cL_part 4 = .ok (.iload_n 3, 1) := by decide +kernel
theorem dL_part_5 : decode cL_part 5 = .ok (.iconst 3, 1) := by decide +kernel
theorem dL_part_6 : decode cL_part 6 = .ok (.if_icmp .ge 35, 3) := by decide +kernel
theorem dL_part_9 : decode cL_part 9 = .ok (.iload_n 2, 1) := by decide +kernel
theorem dL_part_10 : decode cL_part 10 = .ok (.iload_n 1, 1) := by decide +kernel
theorem dL_part_11 : decode cL_part 11 = .ok (.iload_n 3, 1) := by decide +kernel
theorem dL_part_12 : decode cL_part 12 = .ok (.ishr, 1) := by decide +kernel
theorem dL_part_13 : decode cL_part 13 = .ok (.iconst 1, 1) := by decide +kernel
theorem dL_part_14 : decode cL_part 14 = .ok (.iand, 1) := by decide +kernel
theorem dL_part_15 : decode cL_part 15 = .ok (.iconst 1, 1) := by decide +kernel
theorem dL_part_16 : decode cL_part 16 = .ok (.if_icmp .ne 16, 3) := by decide +kernel
theorem dL_part_19 : decode cL_part 19 = .ok (.iload_n 0, 1) := by decide +kernel
theorem dL_part_20 : decode cL_part 20 = .ok (.iload_n 3, 1) := by decide +kernel
theorem dL_part_21 : decode cL_part 21 = .ok (.invokestatic 89, 3) := by decide +kernel
theorem dL_part_24 : decode cL_part 24 = .ok (.iload_n 3, 1) := by decide +kernel
theorem dL_part_25 : decode cL_part 25 = .ok (.invokestatic 94, 3) := by decide +kernel
theorem dL_part_28 : decode cL_part 28 = .ok (.imul, 1) := by decide +kernel
theorem dL_part_29 : decode cL_part 29 = .ok (.goto 4, 3) := by decide +kernel
theorem dL_part_32 : decode cL_part 32 = .ok (.iconst 0, 1) := by decide +kernel
theorem dL_part_33 : decode cL_part 33 = .ok (.iadd, 1) := by decide +kernel
theorem dL_part_34 : decode cL_part 34 = .ok (.istore_n 2, 1) := by decide +kernel
theorem dL_part_35 : decode cL_part 35 = .ok (.iinc 3 1, 3) := by decide +kernel
theorem dL_part_38 : decode cL_part 38 = .ok (.goto (-34), 3) := by decide +kernel
theorem dL_part_41 : decode cL_part 41 = .ok (.iload_n 2, 1) := by decide +kernel
theorem dL_part_42 : decode cL_part 42 = .ok (.ireturn, 1) := by decide +kernel
theorem dL_parts_0 : decode cL_parts 0 = .ok (.iconst 0, 1) := by decide +kernel
theorem dL_parts_1 : decode cL_parts 1 = .ok (.istore_n 2, 1) := by decide +kernel
theorem dL_parts_2 : decode cL_parts 2 = .ok (.iconst 0, 1) := by decide +kernel
theorem dL_parts_3 : decode cL_parts 3 = .ok (.istore_n 3, 1) := by decide +kernel
theorem dL_parts_4 : decode cL_parts 4 = .ok (.iload_n 3, 1) := by decide +kernel
theorem dL_parts_5 : decode cL_parts 5 = .ok (.bipush 27, 2) := by decide +kernel
theorem dL_parts_7 : decode cL_parts 7 = .ok (.if_icmp .ge 23, 3) := by decide +kernel
theorem dL_parts_10 : decode cL_parts 10 = .ok (.iload_n 2, 1) := by decide +kernel
theorem dL_parts_11 : decode cL_parts 11 = .ok (.iload_n 0, 1) := by decide +kernel
theorem dL_parts_12 : decode cL_parts 12 = .ok (.iload_n 3, 1) := by decide +kernel
theorem dL_parts_13 : decode cL_parts 13 = .ok (.ishr, 1) := by decide +kernel
theorem dL_parts_14 : decode cL_parts 14 = .ok (.iconst 1, 1) := by decide +kernel
theorem dL_parts_15 : decode cL_parts 15 = .ok (.iand, 1) := by decide +kernel
theorem dL_parts_16 : decode cL_parts 16 = .ok (.iload_n 3, 1) := by decide +kernel
theorem dL_parts_17 : decode cL_parts 17 = .ok (.iload_n 1, 1) := by decide +kernel
theorem dL_parts_18 : decode cL_parts 18 = .ok (.invokestatic 97, 3) := by decide +kernel
theorem dL_parts_21 : decode cL_parts 21 = .ok (.ishl, 1) := by decide +kernel
theorem dL_parts_22 : decode cL_parts 22 = .ok (.ior, 1) := by decide +kernel
theorem dL_parts_23 : decode cL_parts 23 = .ok (.istore_n 2, 1) := by decide +kernel
theorem dL_parts_24 : decode cL_parts 24 = .ok (.iinc 3 1, 3) := by decide +kernel
theorem dL_parts_27 : decode cL_parts 27 = .ok (.goto (-23), 3) := by decide +kernel
theorem dL_parts_30 : decode cL_parts 30 = .ok (.iload_n 2, 1) := by decide +kernel
theorem dL_parts_31 : decode cL_parts 31 = .ok (.ireturn, 1) := by decide +kernel
theorem dL_columnsOf_0 : decode cL_columnsOf 0 = .ok (.aload_n 0, 1) := by decide +kernel
theorem dL_columnsOf_1 : decode cL_columnsOf 1 = .ok (.iload_n 1, 1) := by decide +kernel
theorem dL_columnsOf_2 : decode cL_columnsOf 2 = .ok (.iaload, 1) := by decide +kernel
theorem dL_columnsOf_3 : decode cL_columnsOf 3 = .ok (.bipush 15, 2) := by decide +kernel
theorem dL_columnsOf_5 : decode cL_columnsOf 5 = .ok (.ishr, 1) := by decide +kernel
theorem dL_columnsOf_6 : decode cL_columnsOf 6 = .ok (.bipush 7, 2) := by decide +kernel
theorem dL_columnsOf_8 : decode cL_columnsOf 8 = .ok (.iand, 1) := by decide +kernel
theorem dL_columnsOf_9 : decode cL_columnsOf 9 = .ok (.ireturn, 1) := by decide +kernel
theorem dL_keyOf_0 : decode cL_keyOf 0 = .ok (.aload_n 0, 1) := by decide +kernel
theorem dL_keyOf_1 : decode cL_keyOf 1 = .ok (.iload_n 1, 1) := by decide +kernel
theorem dL_keyOf_2 : decode cL_keyOf 2 = .ok (.iaload, 1) := by decide +kernel
theorem dL_keyOf_3 : decode cL_keyOf 3 = .ok (.bipush 18, 2) := by decide +kernel
theorem dL_keyOf_5 : decode cL_keyOf 5 = .ok (.ishr, 1) := by decide +kernel
theorem dL_keyOf_6 : decode cL_keyOf 6 = .ok (.bipush 7, 2) := by decide +kernel
theorem dL_keyOf_8 : decode cL_keyOf 8 = .ok (.iand, 1) := by decide +kernel
theorem dL_keyOf_9 : decode cL_keyOf 9 = .ok (.ireturn, 1) := by decide +kernel
theorem dL_selected_0 : decode cL_selected 0 = .ok (.iconst 0, 1) := by decide +kernel
theorem dL_selected_1 : decode cL_selected 1 = .ok (.istore_n 3, 1) := by decide +kernel
theorem dL_selected_2 : decode cL_selected 2 = .ok (.iconst 0, 1) := by decide +kernel
theorem dL_selected_3 : decode cL_selected 3 = .ok (.istore 4, 2) := by decide +kernel
theorem dL_selected_5 : decode cL_selected 5 = .ok (.iload 4, 2) := by decide +kernel
theorem dL_selected_7 : decode cL_selected 7 = .ok (.bipush 27, 2) := by decide +kernel
theorem dL_selected_9 : decode cL_selected 9 = .ok (.if_icmp .ge 74, 3) := by decide +kernel
theorem dL_selected_12 : decode cL_selected 12 = .ok (.iload 4, 2) := by decide +kernel
theorem dL_selected_14 : decode cL_selected 14 = .ok (.iload_n 0, 1) := by decide +kernel
theorem dL_selected_15 : decode cL_selected 15 = .ok (.bipush 10, 2) := by decide +kernel
theorem dL_selected_17 : decode cL_selected 17 = .ok (.ishr, 1) := by decide +kernel
theorem dL_selected_18 : decode cL_selected 18 = .ok (.iconst 3, 1) := by decide +kernel
theorem dL_selected_19 : decode cL_selected 19 = .ok (.iand, 1) := by decide +kernel
theorem dL_selected_20 : decode cL_selected 20 = .ok (.invokestatic 89, 3) := by decide +kernel
theorem dL_selected_23 : decode cL_selected 23 = .ok (.iload_n 0, 1) := by decide +kernel
theorem dL_selected_24 : decode cL_selected 24 = .ok (.bipush 12, 2) := by decide +kernel
theorem dL_selected_26 : decode cL_selected 26 = .ok (.ishr, 1) := by decide +kernel
theorem dL_selected_27 : decode cL_selected 27 = .ok (.iconst 3, 1) := by decide +kernel
theorem dL_selected_28 : decode cL_selected 28 = .ok (.iand, 1) := by decide +kernel
theorem dL_selected_29 : decode cL_selected 29 = .ok (.if_icmp .ne 7, 3) := by decide +kernel
theorem dL_selected_32 : decode cL_selected 32 = .ok (.iconst 1, 1) := by decide +kernel
theorem dL_selected_33 : decode cL_selected 33 = .ok (.goto 4, 3) := by decide +kernel
theorem dL_selected_36 : decode cL_selected 36 = .ok (.iconst 0, 1) := by decide +kernel
theorem dL_selected_37 : decode cL_selected 37 = .ok (.iload_n 0, 1) := by decide +kernel
theorem dL_selected_38 : decode cL_selected 38 = .ok (.bipush 14, 2) := by decide +kernel
theorem dL_selected_40 : decode cL_selected 40 = .ok (.ishr, 1) := by decide +kernel
theorem dL_selected_41 : decode cL_selected 41 = .ok (.iconst 1, 1) := by decide +kernel
theorem dL_selected_42 : decode cL_selected 42 = .ok (.iand, 1) := by decide +kernel
theorem dL_selected_43 : decode cL_selected 43 = .ok (.iconst 1, 1) := by decide +kernel
theorem dL_selected_44 : decode cL_selected 44 = .ok (.if_icmp .ne 7, 3) := by decide +kernel
theorem dL_selected_47 : decode cL_selected 47 = .ok (.iconst 1, 1) := by decide +kernel
theorem dL_selected_48 : decode cL_selected 48 = .ok (.goto 4, 3) := by decide +kernel
theorem dL_selected_51 : decode cL_selected 51 = .ok (.iconst 0, 1) := by decide +kernel
theorem dL_selected_52 : decode cL_selected 52 = .ok (.if_icmp .ne 7, 3) := by decide +kernel
theorem dL_selected_55 : decode cL_selected 55 = .ok (.iconst 1, 1) := by decide +kernel
theorem dL_selected_56 : decode cL_selected 56 = .ok (.goto 4, 3) := by decide +kernel
theorem dL_selected_59 : decode cL_selected 59 = .ok (.iconst 0, 1) := by decide +kernel
theorem dL_selected_60 : decode cL_selected 60 = .ok (.istore 5, 2) := by decide +kernel
theorem dL_selected_62 : decode cL_selected 62 = .ok (.iload 5, 2) := by decide +kernel
theorem dL_selected_64 : decode cL_selected 64 = .ok (.iload_n 2, 1) := by decide +kernel
theorem dL_selected_65 : decode cL_selected 65 = .ok (.if_icmp .ne 12, 3) := by decide +kernel
theorem dL_selected_68 : decode cL_selected 68 = .ok (.iload_n 3, 1) := by decide +kernel
theorem dL_selected_69 : decode cL_selected 69 = .ok (.iload_n 1, 1) := by decide +kernel
theorem dL_selected_70 : decode cL_selected 70 = .ok (.iconst 1, 1) := by decide +kernel
theorem dL_selected_71 : decode cL_selected 71 = .ok (.iload 4, 2) := by decide +kernel
theorem dL_selected_73 : decode cL_selected 73 = .ok (.ishl, 1) := by decide +kernel
theorem dL_selected_74 : decode cL_selected 74 = .ok (.iand, 1) := by decide +kernel
theorem dL_selected_75 : decode cL_selected 75 = .ok (.ior, 1) := by decide +kernel
theorem dL_selected_76 : decode cL_selected 76 = .ok (.istore_n 3, 1) := by decide +kernel
theorem dL_selected_77 : decode cL_selected 77 = .ok (.iinc 4 1, 3) := by decide +kernel
theorem dL_selected_80 : decode cL_selected 80 = .ok (.goto (-75), 3) := by decide +kernel
theorem dL_selected_83 : decode cL_selected 83 = .ok (.iload_n 3, 1) := by decide +kernel
theorem dL_selected_84 : decode cL_selected 84 = .ok (.ireturn, 1) := by decide +kernel
theorem dL_like_0 : decode cL_like 0 = .ok (.iload_n 1, 1) := by decide +kernel
theorem dL_like_1 : decode cL_like 1 = .ok (.iload_n 2, 1) := by decide +kernel
theorem dL_like_2 : decode cL_like 2 = .ok (.invokestatic 100, 3) := by decide +kernel
theorem dL_like_5 : decode cL_like 5 = .ok (.istore 4, 2) := by decide +kernel
theorem dL_like_7 : decode cL_like 7 = .ok (.iconst 0, 1) := by decide +kernel
theorem dL_like_8 : decode cL_like 8 = .ok (.istore 5, 2) := by decide +kernel
theorem dL_like_10 : decode cL_like 10 = .ok (.iconst 0, 1) := by decide +kernel
theorem dL_like_11 : decode cL_like 11 = .ok (.istore 6, 2) := by decide +kernel
theorem dL_like_13 : decode cL_like 13 = .ok (.iload 6, 2) := by decide +kernel
theorem dL_like_15 : decode cL_like 15 = .ok (.bipush 27, 2) := by decide +kernel
theorem dL_like_17 : decode cL_like 17 = .ok (.if_icmp .ge 44, 3) := by decide +kernel
theorem dL_like_20 : decode cL_like 20 = .ok (.iload 4, 2) := by decide +kernel
theorem dL_like_22 : decode cL_like 22 = .ok (.iload 6, 2) := by decide +kernel
theorem dL_like_24 : decode cL_like 24 = .ok (.iload_n 2, 1) := by decide +kernel
theorem dL_like_25 : decode cL_like 25 = .ok (.invokestatic 97, 3) := by decide +kernel
theorem dL_like_28 : decode cL_like 28 = .ok (.ishr, 1) := by decide +kernel
theorem dL_like_29 : decode cL_like 29 = .ok (.iconst 1, 1) := by decide +kernel
theorem dL_like_30 : decode cL_like 30 = .ok (.iand, 1) := by decide +kernel
theorem dL_like_31 : decode cL_like 31 = .ok (.iconst 1, 1) := by decide +kernel
theorem dL_like_32 : decode cL_like 32 = .ok (.if_icmp .ne 7, 3) := by decide +kernel
theorem dL_like_35 : decode cL_like 35 = .ok (.iconst 1, 1) := by decide +kernel
theorem dL_like_36 : decode cL_like 36 = .ok (.goto 4, 3) := by decide +kernel
theorem dL_like_39 : decode cL_like 39 = .ok (.iconst 0, 1) := by decide +kernel
theorem dL_like_40 : decode cL_like 40 = .ok (.iload_n 3, 1) := by decide +kernel
theorem dL_like_41 : decode cL_like 41 = .ok (.if_icmp .ne 14, 3) := by decide +kernel
theorem dL_like_44 : decode cL_like 44 = .ok (.iload 5, 2) := by decide +kernel
theorem dL_like_46 : decode cL_like 46 = .ok (.iload_n 0, 1) := by decide +kernel
theorem dL_like_47 : decode cL_like 47 = .ok (.iconst 1, 1) := by decide +kernel
theorem dL_like_48 : decode cL_like 48 = .ok (.iload 6, 2) := by decide +kernel
theorem dL_like_50 : decode cL_like 50 = .ok (.ishl, 1) := by decide +kernel
theorem dL_like_51 : decode cL_like 51 = .ok (.iand, 1) := by decide +kernel
theorem dL_like_52 : decode cL_like 52 = .ok (.ior, 1) := by decide +kernel
theorem dL_like_53 : decode cL_like 53 = .ok (.istore 5, 2) := by decide +kernel
theorem dL_like_55 : decode cL_like 55 = .ok (.iinc 6 1, 3) := by decide +kernel
theorem dL_like_58 : decode cL_like 58 = .ok (.goto (-45), 3) := by decide +kernel
theorem dL_like_61 : decode cL_like 61 = .ok (.iload 5, 2) := by decide +kernel
theorem dL_like_63 : decode cL_like 63 = .ok (.ireturn, 1) := by decide +kernel
theorem dL_lay_0 : decode cL_lay 0 = .ok (.iconst 0, 1) := by decide +kernel
theorem dL_lay_1 : decode cL_lay 1 = .ok (.istore 4, 2) := by decide +kernel
theorem dL_lay_3 : decode cL_lay 3 = .ok (.iload 4, 2) := by decide +kernel
theorem dL_lay_5 : decode cL_lay 5 = .ok (.aload_n 3, 1) := by decide +kernel
theorem dL_lay_6 : decode cL_lay 6 = .ok (.iconst 1, 1) := by decide +kernel
theorem dL_lay_7 : decode cL_lay 7 = .ok (.iaload, 1) := by decide +kernel
theorem dL_lay_8 : decode cL_lay 8 = .ok (.if_icmp .ge 213, 3) := by decide +kernel
theorem dL_lay_11 : decode cL_lay 11 = .ok (.aload_n 1, 1) := by decide +kernel
theorem dL_lay_12 : decode cL_lay 12 = .ok (.iload 4, 2) := by decide +kernel
theorem dL_lay_14 : decode cL_lay 14 = .ok (.iaload, 1) := by decide +kernel
theorem dL_lay_15 : decode cL_lay 15 = .ok (.iconst 3, 1) := by decide +kernel
theorem dL_lay_16 : decode cL_lay 16 = .ok (.iand, 1) := by decide +kernel
theorem dL_lay_17 : decode cL_lay 17 = .ok (.istore 5, 2) := by decide +kernel
theorem dL_lay_19 : decode cL_lay 19 = .ok (.aload_n 1, 1) := by decide +kernel
theorem dL_lay_20 : decode cL_lay 20 = .ok (.iload 4, 2) := by decide +kernel
theorem dL_lay_22 : decode cL_lay 22 = .ok (.iaload, 1) := by decide +kernel
theorem dL_lay_23 : decode cL_lay 23 = .ok (.iconst 2, 1) := by decide +kernel
theorem dL_lay_24 : decode cL_lay 24 = .ok (.ishr, 1) := by decide +kernel
theorem dL_lay_25 : decode cL_lay 25 = .ok (.bipush 15, 2) := by decide +kernel
theorem dL_lay_27 : decode cL_lay 27 = .ok (.iand, 1) := by decide +kernel
theorem dL_lay_28 : decode cL_lay 28 = .ok (.istore 6, 2) := by decide +kernel
theorem dL_lay_30 : decode cL_lay 30 = .ok (.aload_n 1, 1) := by decide +kernel
theorem dL_lay_31 : decode cL_lay 31 = .ok (.iload 4, 2) := by decide +kernel
theorem dL_lay_33 : decode cL_lay 33 = .ok (.iaload, 1) := by decide +kernel
theorem dL_lay_34 : decode cL_lay 34 = .ok (.bipush 6, 2) := by decide +kernel
theorem dL_lay_36 : decode cL_lay 36 = .ok (.ishr, 1) := by decide +kernel
theorem dL_lay_37 : decode cL_lay 37 = .ok (.bipush 15, 2) := by decide +kernel
theorem dL_lay_39 : decode cL_lay 39 = .ok (.iand, 1) := by decide +kernel
theorem dL_lay_40 : decode cL_lay 40 = .ok (.istore 7, 2) := by decide +kernel
theorem dL_lay_42 : decode cL_lay 42 = .ok (.iload 5, 2) := by decide +kernel
theorem dL_lay_44 : decode cL_lay 44 = .ok (.ifCond .ne 13, 3) := by decide +kernel
theorem dL_lay_47 : decode cL_lay 47 = .ok (.aload_n 2, 1) := by decide +kernel
theorem dL_lay_48 : decode cL_lay 48 = .ok (.iload 4, 2) := by decide +kernel
theorem dL_lay_50 : decode cL_lay 50 = .ok (.aload_n 0, 1) := by decide +kernel
theorem dL_lay_51 : decode cL_lay 51 = .ok (.iconst 3, 1) := by decide +kernel
theorem dL_lay_52 : decode cL_lay 52 = .ok (.iload 6, 2) := by decide +kernel
theorem dL_lay_54 : decode cL_lay 54 = .ok (.iadd, 1) := by decide +kernel
theorem dL_lay_55 : decode cL_lay 55 = .ok (.iaload, 1) := by decide +kernel
theorem dL_lay_56 : decode cL_lay 56 = .ok (.iastore, 1) := by decide +kernel
theorem dL_lay_57 : decode cL_lay 57 = .ok (.iload 5, 2) := by decide +kernel
theorem dL_lay_59 : decode cL_lay 59 = .ok (.iconst 1, 1) := by decide +kernel
theorem dL_lay_60 : decode cL_lay 60 = .ok (.if_icmp .ne 19, 3) := by decide +kernel
theorem dL_lay_63 : decode cL_lay 63 = .ok (.aload_n 2, 1) := by decide +kernel
theorem dL_lay_64 : decode cL_lay 64 = .ok (.iload 4, 2) := by decide +kernel
theorem dL_lay_66 : decode cL_lay 66 = .ok (.aload_n 1, 1) := by decide +kernel
theorem dL_lay_67 : decode cL_lay 67 = .ok (.iload 4, 2) := by decide +kernel
theorem dL_lay_69 : decode cL_lay 69 = .ok (.iaload, 1) := by decide +kernel
theorem dL_lay_70 : decode cL_lay 70 = .ok (.aload_n 2, 1) := by decide +kernel
theorem dL_lay_71 : decode cL_lay 71 = .ok (.iload 6, 2) := by decide +kernel
theorem dL_lay_73 : decode cL_lay 73 = .ok (.iaload, 1) := by decide +kernel
theorem dL_lay_74 : decode cL_lay 74 = .ok (.iconst 1, 1) := by decide +kernel
theorem dL_lay_75 : decode cL_lay 75 = .ok (.invokestatic 103, 3) := by decide +kernel
theorem dL_lay_78 : decode cL_lay 78 = .ok (.iastore, 1) := by decide +kernel
theorem dL_lay_79 : decode cL_lay 79 = .ok (.iload 5, 2) := by decide +kernel
theorem dL_lay_81 : decode cL_lay 81 = .ok (.iconst 2, 1) := by decide +kernel
theorem dL_lay_82 : decode cL_lay 82 = .ok (.if_icmp .ne 20, 3) := by decide +kernel
theorem dL_lay_85 : decode cL_lay 85 = .ok (.aload_n 2, 1) := by decide +kernel
theorem dL_lay_86 : decode cL_lay 86 = .ok (.iload 4, 2) := by decide +kernel
theorem dL_lay_88 : decode cL_lay 88 = .ok (.aload_n 2, 1) := by decide +kernel
theorem dL_lay_89 : decode cL_lay 89 = .ok (.iload 6, 2) := by decide +kernel
theorem dL_lay_91 : decode cL_lay 91 = .ok (.iaload, 1) := by decide +kernel
theorem dL_lay_92 : decode cL_lay 92 = .ok (.aload_n 1, 1) := by decide +kernel
theorem dL_lay_93 : decode cL_lay 93 = .ok (.iload 4, 2) := by decide +kernel
theorem dL_lay_95 : decode cL_lay 95 = .ok (.invokestatic 107, 3) := by decide +kernel
theorem dL_lay_98 : decode cL_lay 98 = .ok (.invokestatic 100, 3) := by decide +kernel
theorem dL_lay_101 : decode cL_lay 101 = .ok (.iastore, 1) := by decide +kernel
theorem dL_lay_102 : decode cL_lay 102 = .ok (.iload 5, 2) := by decide +kernel
theorem dL_lay_104 : decode cL_lay 104 = .ok (.iconst 3, 1) := by decide +kernel
theorem dL_lay_105 : decode cL_lay 105 = .ok (.if_icmp .ge 6, 3) := by decide +kernel
theorem dL_lay_108 : decode cL_lay 108 = .ok (.goto 107, 3) := by decide +kernel
theorem dL_lay_111 : decode cL_lay 111 = .ok (.aload_n 2, 1) := by decide +kernel
theorem dL_lay_112 : decode cL_lay 112 = .ok (.iload 4, 2) := by decide +kernel
theorem dL_lay_114 : decode cL_lay 114 = .ok (.iconst 0, 1) := by decide +kernel
theorem dL_lay_115 : decode cL_lay 115 = .ok (.iastore, 1) := by decide +kernel
theorem dL_lay_116 : decode cL_lay 116 = .ok (.iconst 0, 1) := by decide +kernel
theorem dL_lay_117 : decode cL_lay 117 = .ok (.istore 8, 2) := by decide +kernel
theorem dL_lay_119 : decode cL_lay 119 = .ok (.iload 8, 2) := by decide +kernel
theorem dL_lay_121 : decode cL_lay 121 = .ok (.bipush 27, 2) := by decide +kernel
theorem dL_lay_123 : decode cL_lay 123 = .ok (.if_icmp .ge 92, 3) := by decide +kernel
theorem dL_lay_126 : decode cL_lay 126 = .ok (.iload 8, 2) := by decide +kernel
theorem dL_lay_128 : decode cL_lay 128 = .ok (.aload_n 1, 1) := by decide +kernel
theorem dL_lay_129 : decode cL_lay 129 = .ok (.iload 4, 2) := by decide +kernel
theorem dL_lay_131 : decode cL_lay 131 = .ok (.invokestatic 107, 3) := by decide +kernel
theorem dL_lay_134 : decode cL_lay 134 = .ok (.invokestatic 97, 3) := by decide +kernel
theorem dL_lay_137 : decode cL_lay 137 = .ok (.iload 8, 2) := by decide +kernel
theorem dL_lay_139 : decode cL_lay 139 = .ok (.if_icmp .ne 51, 3) := by decide +kernel
theorem dL_lay_142 : decode cL_lay 142 = .ok (.aload_n 2, 1) := by decide +kernel
theorem dL_lay_143 : decode cL_lay 143 = .ok (.iload 6, 2) := by decide +kernel
theorem dL_lay_145 : decode cL_lay 145 = .ok (.iaload, 1) := by decide +kernel
theorem dL_lay_146 : decode cL_lay 146 = .ok (.iload 8, 2) := by decide +kernel
theorem dL_lay_148 : decode cL_lay 148 = .ok (.aload_n 1, 1) := by decide +kernel
theorem dL_lay_149 : decode cL_lay 149 = .ok (.iload 6, 2) := by decide +kernel
theorem dL_lay_151 : decode cL_lay 151 = .ok (.invokestatic 107, 3) := by decide +kernel
theorem dL_lay_154 : decode cL_lay 154 = .ok (.invokestatic 97, 3) := by decide +kernel
theorem dL_lay_157 : decode cL_lay 157 = .ok (.ishr, 1) := by decide +kernel
theorem dL_lay_158 : decode cL_lay 158 = .ok (.iconst 1, 1) := by decide +kernel
theorem dL_lay_159 : decode cL_lay 159 = .ok (.iand, 1) := by decide +kernel
theorem dL_lay_160 : decode cL_lay 160 = .ok (.iconst 1, 1) := by decide +kernel
theorem dL_lay_161 : decode cL_lay 161 = .ok (.if_icmp .ne 29, 3) := by decide +kernel
theorem dL_lay_164 : decode cL_lay 164 = .ok (.aload_n 2, 1) := by decide +kernel
theorem dL_lay_165 : decode cL_lay 165 = .ok (.iload 7, 2) := by decide +kernel
theorem dL_lay_167 : decode cL_lay 167 = .ok (.iaload, 1) := by decide +kernel
theorem dL_lay_168 : decode cL_lay 168 = .ok (.iload 8, 2) := by decide +kernel
theorem dL_lay_170 : decode cL_lay 170 = .ok (.aload_n 1, 1) := by decide +kernel
theorem dL_lay_171 : decode cL_lay 171 = .ok (.iload 7, 2) := by decide +kernel
theorem dL_lay_173 : decode cL_lay 173 = .ok (.invokestatic 107, 3) := by decide +kernel
theorem dL_lay_176 : decode cL_lay 176 = .ok (.invokestatic 97, 3) := by decide +kernel
theorem dL_lay_179 : decode cL_lay 179 = .ok (.ishr, 1) := by decide +kernel
theorem dL_lay_180 : decode cL_lay 180 = .ok (.iconst 1, 1) := by decide +kernel
theorem dL_lay_181 : decode cL_lay 181 = .ok (.iand, 1) := by decide +kernel
theorem dL_lay_182 : decode cL_lay 182 = .ok (.iconst 1, 1) := by decide +kernel
theorem dL_lay_183 : decode cL_lay 183 = .ok (.if_icmp .ne 7, 3) := by decide +kernel
theorem dL_lay_186 : decode cL_lay 186 = .ok (.iconst 1, 1) := by decide +kernel
theorem dL_lay_187 : decode cL_lay 187 = .ok (.goto 4, 3) := by decide +kernel
theorem dL_lay_190 : decode cL_lay 190 = .ok (.iconst 0, 1) := by decide +kernel
theorem dL_lay_191 : decode cL_lay 191 = .ok (.istore 9, 2) := by decide +kernel
theorem dL_lay_193 : decode cL_lay 193 = .ok (.iload 9, 2) := by decide +kernel
theorem dL_lay_195 : decode cL_lay 195 = .ok (.ifCond .eq 14, 3) := by decide +kernel
theorem dL_lay_198 : decode cL_lay 198 = .ok (.aload_n 2, 1) := by decide +kernel
theorem dL_lay_199 : decode cL_lay 199 = .ok (.iload 4, 2) := by decide +kernel
theorem dL_lay_201 : decode cL_lay 201 = .ok (.dup2, 1) := by decide +kernel
theorem dL_lay_202 : decode cL_lay 202 = .ok (.iaload, 1) := by decide +kernel
theorem dL_lay_203 : decode cL_lay 203 = .ok (.iconst 1, 1) := by decide +kernel
theorem dL_lay_204 : decode cL_lay 204 = .ok (.iload 8, 2) := by decide +kernel
theorem dL_lay_206 : decode cL_lay 206 = .ok (.ishl, 1) := by decide +kernel
theorem dL_lay_207 : decode cL_lay 207 = .ok (.ior, 1) := by decide +kernel
theorem dL_lay_208 : decode cL_lay 208 = .ok (.iastore, 1) := by decide +kernel
theorem dL_lay_209 : decode cL_lay 209 = .ok (.iinc 8 1, 3) := by decide +kernel
theorem dL_lay_212 : decode cL_lay 212 = .ok (.goto (-93), 3) := by decide +kernel
theorem dL_lay_215 : decode cL_lay 215 = .ok (.iinc 4 1, 3) := by decide +kernel
theorem dL_lay_218 : decode cL_lay 218 = .ok (.goto (-215), 3) := by decide +kernel
theorem dL_lay_221 : decode cL_lay 221 = .ok (.return_, 1) := by decide +kernel
theorem dL_twins_0 : decode cL_twins 0 = .ok (.iconst 0, 1) := by decide +kernel
theorem dL_twins_1 : decode cL_twins 1 = .ok (.istore 6, 2) := by decide +kernel
theorem dL_twins_3 : decode cL_twins 3 = .ok (.iload 6, 2) := by decide +kernel
theorem dL_twins_5 : decode cL_twins 5 = .ok (.bipush 27, 2) := by decide +kernel
theorem dL_twins_7 : decode cL_twins 7 = .ok (.if_icmp .ge 119, 3) := by decide +kernel
theorem dL_twins_10 : decode cL_twins 10 = .ok (.iload_n 3, 1) := by decide +kernel
theorem dL_twins_11 : decode cL_twins 11 = .ok (.iload 6, 2) := by decide +kernel
theorem dL_twins_13 : decode cL_twins 13 = .ok (.ishr, 1) := by decide +kernel
theorem dL_twins_14 : decode cL_twins 14 = .ok (.iconst 1, 1) := by decide +kernel
theorem dL_twins_15 : decode cL_twins 15 = .ok (.iand, 1) := by decide +kernel
theorem dL_twins_16 : decode cL_twins 16 = .ok (.ifCond .ne 6, 3) := by decide +kernel
theorem dL_twins_19 : decode cL_twins 19 = .ok (.goto 101, 3) := by decide +kernel
theorem dL_twins_22 : decode cL_twins 22 = .ok (.iload 6, 2) := by decide +kernel
theorem dL_twins_24 : decode cL_twins 24 = .ok (.iconst 1, 1) := by decide +kernel
theorem dL_twins_25 : decode cL_twins 25 = .ok (.iadd, 1) := by decide +kernel
theorem dL_twins_26 : decode cL_twins 26 = .ok (.istore 7, 2) := by decide +kernel
theorem dL_twins_28 : decode cL_twins 28 = .ok (.iload 7, 2) := by decide +kernel
theorem dL_twins_30 : decode cL_twins 30 = .ok (.bipush 27, 2) := by decide +kernel
theorem dL_twins_32 : decode cL_twins 32 = .ok (.if_icmp .ge 88, 3) := by decide +kernel
theorem dL_twins_35 : decode cL_twins 35 = .ok (.iload_n 3, 1) := by decide +kernel
theorem dL_twins_36 : decode cL_twins 36 = .ok (.iload 7, 2) := by decide +kernel
theorem dL_twins_38 : decode cL_twins 38 = .ok (.ishr, 1) := by decide +kernel
theorem dL_twins_39 : decode cL_twins 39 = .ok (.iconst 1, 1) := by decide +kernel
theorem dL_twins_40 : decode cL_twins 40 = .ok (.iand, 1) := by decide +kernel
theorem dL_twins_41 : decode cL_twins 41 = .ok (.ifCond .eq 73, 3) := by decide +kernel
theorem dL_twins_44 : decode cL_twins 44 = .ok (.iload 6, 2) := by decide +kernel
theorem dL_twins_46 : decode cL_twins 46 = .ok (.iload 4, 2) := by decide +kernel
theorem dL_twins_48 : decode cL_twins 48 = .ok (.invokestatic 97, 3) := by decide +kernel
theorem dL_twins_51 : decode cL_twins 51 = .ok (.iload 7, 2) := by decide +kernel
theorem dL_twins_53 : decode cL_twins 53 = .ok (.iload 4, 2) := by decide +kernel
theorem dL_twins_55 : decode cL_twins 55 = .ok (.invokestatic 97, 3) := by decide +kernel
theorem dL_twins_58 : decode cL_twins 58 = .ok (.if_icmp .ne 56, 3) := by decide +kernel
theorem dL_twins_61 : decode cL_twins 61 = .ok (.iload 6, 2) := by decide +kernel
theorem dL_twins_63 : decode cL_twins 63 = .ok (.iload 5, 2) := by decide +kernel
theorem dL_twins_65 : decode cL_twins 65 = .ok (.invokestatic 97, 3) := by decide +kernel
theorem dL_twins_68 : decode cL_twins 68 = .ok (.iload 7, 2) := by decide +kernel
theorem dL_twins_70 : decode cL_twins 70 = .ok (.iload 5, 2) := by decide +kernel
theorem dL_twins_72 : decode cL_twins 72 = .ok (.invokestatic 97, 3) := by decide +kernel
theorem dL_twins_75 : decode cL_twins 75 = .ok (.if_icmp .ne 6, 3) := by decide +kernel
theorem dL_twins_78 : decode cL_twins 78 = .ok (.goto 36, 3) := by decide +kernel
theorem dL_twins_81 : decode cL_twins 81 = .ok (.aload_n 0, 1) := by decide +kernel
theorem dL_twins_82 : decode cL_twins 82 = .ok (.iconst 4, 1) := by decide +kernel
theorem dL_twins_83 : decode cL_twins 83 = .ok (.bipush 10, 2) := by decide +kernel
theorem dL_twins_85 : decode cL_twins 85 = .ok (.iload_n 1, 1) := by decide +kernel
theorem dL_twins_86 : decode cL_twins 86 = .ok (.imul, 1) := by decide +kernel
theorem dL_twins_87 : decode cL_twins 87 = .ok (.iload_n 2, 1) := by decide +kernel
theorem dL_twins_88 : decode cL_twins 88 = .ok (.iadd, 1) := by decide +kernel
theorem dL_twins_89 : decode cL_twins 89 = .ok (.iastore, 1) := by decide +kernel
theorem dL_twins_90 : decode cL_twins 90 = .ok (.aload_n 0, 1) := by decide +kernel
theorem dL_twins_91 : decode cL_twins 91 = .ok (.iconst 5, 1) := by decide +kernel
theorem dL_twins_92 : decode cL_twins 92 = .ok (.iload 6, 2) := by decide +kernel
theorem dL_twins_94 : decode cL_twins 94 = .ok (.invokestatic 111, 3) := by decide +kernel
theorem dL_twins_97 : decode cL_twins 97 = .ok (.iconst 1, 1) := by decide +kernel
theorem dL_twins_98 : decode cL_twins 98 = .ok (.iadd, 1) := by decide +kernel
theorem dL_twins_99 : decode cL_twins 99 = .ok (.sipush 1000, 3) := by decide +kernel
theorem dL_twins_102 : decode cL_twins 102 = .ok (.iload 7, 2) := by decide +kernel
theorem dL_twins_104 : decode cL_twins 104 = .ok (.invokestatic 111, 3) := by decide +kernel
theorem dL_twins_107 : decode cL_twins 107 = .ok (.iconst 1, 1) := by decide +kernel
theorem dL_twins_108 : decode cL_twins 108 = .ok (.iadd, 1) := by decide +kernel
theorem dL_twins_109 : decode cL_twins 109 = .ok (.imul, 1) := by decide +kernel
theorem dL_twins_110 : decode cL_twins 110 = .ok (.iadd, 1) := by decide +kernel
theorem dL_twins_111 : decode cL_twins 111 = .ok (.iastore, 1) := by decide +kernel
theorem dL_twins_112 : decode cL_twins 112 = .ok (.iconst 1, 1) := by decide +kernel
theorem dL_twins_113 : decode cL_twins 113 = .ok (.ireturn, 1) := by decide +kernel
theorem dL_twins_114 : decode cL_twins 114 = .ok (.iinc 7 1, 3) := by decide +kernel
theorem dL_twins_117 : decode cL_twins 117 = .ok (.goto (-89), 3) := by decide +kernel
theorem dL_twins_120 : decode cL_twins 120 = .ok (.iinc 6 1, 3) := by decide +kernel
theorem dL_twins_123 : decode cL_twins 123 = .ok (.goto (-120), 3) := by decide +kernel
theorem dL_twins_126 : decode cL_twins 126 = .ok (.iconst 0, 1) := by decide +kernel
theorem dL_twins_127 : decode cL_twins 127 = .ok (.ireturn, 1) := by decide +kernel
theorem dL_hinders_0 : decode cL_hinders 0 = .ok (.aload_n 0, 1) := by decide +kernel
theorem dL_hinders_1 : decode cL_hinders 1 = .ok (.iload_n 2, 1) := by decide +kernel
theorem dL_hinders_2 : decode cL_hinders 2 = .ok (.iaload, 1) := by decide +kernel
theorem dL_hinders_3 : decode cL_hinders 3 = .ok (.iconst 3, 1) := by decide +kernel
theorem dL_hinders_4 : decode cL_hinders 4 = .ok (.iand, 1) := by decide +kernel
theorem dL_hinders_5 : decode cL_hinders 5 = .ok (.istore 4, 2) := by decide +kernel
theorem dL_hinders_7 : decode cL_hinders 7 = .ok (.aload_n 1, 1) := by decide +kernel
theorem dL_hinders_8 : decode cL_hinders 8 = .ok (.iload_n 2, 1) := by decide +kernel
theorem dL_hinders_9 : decode cL_hinders 9 = .ok (.iconst 1, 1) := by decide +kernel
theorem dL_hinders_10 : decode cL_hinders 10 = .ok (.iload_n 3, 1) := by decide +kernel
theorem dL_hinders_11 : decode cL_hinders 11 = .ok (.aload_n 0, 1) := by decide +kernel
theorem dL_hinders_12 : decode cL_hinders 12 = .ok (.iload_n 2, 1) := by decide +kernel
theorem dL_hinders_13 : decode cL_hinders 13 = .ok (.invokestatic 114, 3) := by decide +kernel
theorem dL_hinders_16 : decode cL_hinders 16 = .ok (.bipush 7, 2) := by decide +kernel
theorem dL_hinders_18 : decode cL_hinders 18 = .ok (.invokestatic 117, 3) := by decide +kernel
theorem dL_hinders_21 : decode cL_hinders 21 = .ok (.ifCond .eq 5, 3) := by decide +kernel
theorem dL_hinders_24 : decode cL_hinders 24 = .ok (.iconst 1, 1) := by decide +kernel
theorem dL_hinders_25 : decode cL_hinders 25 = .ok (.ireturn, 1) := by decide +kernel
theorem dL_hinders_26 : decode cL_hinders 26 = .ok (.iload 4, 2) := by decide +kernel
theorem dL_hinders_28 : decode cL_hinders 28 = .ok (.iconst 1, 1) := by decide +kernel
theorem dL_hinders_29 : decode cL_hinders 29 = .ok (.if_icmp .ne 14, 3) := by decide +kernel
theorem dL_hinders_32 : decode cL_hinders 32 = .ok (.aload_n 0, 1) := by decide +kernel
theorem dL_hinders_33 : decode cL_hinders 33 = .ok (.iload_n 2, 1) := by decide +kernel
theorem dL_hinders_34 : decode cL_hinders 34 = .ok (.iaload, 1) := by decide +kernel
theorem dL_hinders_35 : decode cL_hinders 35 = .ok (.iload_n 3, 1) := by decide +kernel
theorem dL_hinders_36 : decode cL_hinders 36 = .ok (.iconst 0, 1) := by decide +kernel
theorem dL_hinders_37 : decode cL_hinders 37 = .ok (.invokestatic 103, 3) := by decide +kernel
theorem dL_hinders_40 : decode cL_hinders 40 = .ok (.goto 4, 3) := by decide +kernel
theorem dL_hinders_43 : decode cL_hinders 43 = .ok (.iconst 0, 1) := by decide +kernel
theorem dL_hinders_44 : decode cL_hinders 44 = .ok (.istore 5, 2) := by decide +kernel
theorem dL_hinders_46 : decode cL_hinders 46 = .ok (.iconst 0, 1) := by decide +kernel
theorem dL_hinders_47 : decode cL_hinders 47 = .ok (.istore 6, 2) := by decide +kernel
theorem dL_hinders_49 : decode cL_hinders 49 = .ok (.iload 6, 2) := by decide +kernel
theorem dL_hinders_51 : decode cL_hinders 51 = .ok (.bipush 27, 2) := by decide +kernel
theorem dL_hinders_53 : decode cL_hinders 53 = .ok (.if_icmp .ge 43, 3) := by decide +kernel
theorem dL_hinders_56 : decode cL_hinders 56 = .ok (.iload 5, 2) := by decide +kernel
theorem dL_hinders_58 : decode cL_hinders 58 = .ok (.iload 6, 2) := by decide +kernel
theorem dL_hinders_60 : decode cL_hinders 60 = .ok (.ishr, 1) := by decide +kernel
theorem dL_hinders_61 : decode cL_hinders 61 = .ok (.iconst 1, 1) := by decide +kernel
theorem dL_hinders_62 : decode cL_hinders 62 = .ok (.iand, 1) := by decide +kernel
theorem dL_hinders_63 : decode cL_hinders 63 = .ok (.ifCond .ne 6, 3) := by decide +kernel
theorem dL_hinders_66 : decode cL_hinders 66 = .ok (.goto 24, 3) := by decide +kernel
theorem dL_hinders_69 : decode cL_hinders 69 = .ok (.aload_n 1, 1) := by decide +kernel
theorem dL_hinders_70 : decode cL_hinders 70 = .ok (.iconst 4, 1) := by decide +kernel
theorem dL_hinders_71 : decode cL_hinders 71 = .ok (.bipush 10, 2) := by decide +kernel
theorem dL_hinders_73 : decode cL_hinders 73 = .ok (.iload_n 2, 1) := by decide +kernel
theorem dL_hinders_74 : decode cL_hinders 74 = .ok (.imul, 1) := by decide +kernel
theorem dL_hinders_75 : decode cL_hinders 75 = .ok (.iconst 2, 1) := by decide +kernel
theorem dL_hinders_76 : decode cL_hinders 76 = .ok (.iadd, 1) := by decide +kernel
theorem dL_hinders_77 : decode cL_hinders 77 = .ok (.iastore, 1) := by decide +kernel
theorem dL_hinders_78 : decode cL_hinders 78 = .ok (.aload_n 1, 1) := by decide +kernel
theorem dL_hinders_79 : decode cL_hinders 79 = .ok (.iconst 5, 1) := by decide +kernel
theorem dL_hinders_80 : decode cL_hinders 80 = .ok (.iload 6, 2) := by decide +kernel
theorem dL_hinders_82 : decode cL_hinders 82 = .ok (.invokestatic 111, 3) := by decide +kernel
theorem dL_hinders_85 : decode cL_hinders 85 = .ok (.iconst 1, 1) := by decide +kernel
theorem dL_hinders_86 : decode cL_hinders 86 = .ok (.iadd, 1) := by decide +kernel
theorem dL_hinders_87 : decode cL_hinders 87 = .ok (.iastore, 1) := by decide +kernel
theorem dL_hinders_88 : decode cL_hinders 88 = .ok (.iconst 1, 1) := by decide +kernel
theorem dL_hinders_89 : decode cL_hinders 89 = .ok (.ireturn, 1) := by decide +kernel
theorem dL_hinders_90 : decode cL_hinders 90 = .ok (.iinc 6 1, 3) := by decide +kernel
theorem dL_hinders_93 : decode cL_hinders 93 = .ok (.goto (-44), 3) := by decide +kernel
theorem dL_hinders_96 : decode cL_hinders 96 = .ok (.aload_n 0, 1) := by decide +kernel
theorem dL_hinders_97 : decode cL_hinders 97 = .ok (.iload_n 2, 1) := by decide +kernel
theorem dL_hinders_98 : decode cL_hinders 98 = .ok (.iaload, 1) := by decide +kernel
theorem dL_hinders_99 : decode cL_hinders 99 = .ok (.bipush 6, 2) := by decide +kernel
theorem dL_hinders_101 : decode cL_hinders 101 = .ok (.ishr, 1) := by decide +kernel
theorem dL_hinders_102 : decode cL_hinders 102 = .ok (.bipush 15, 2) := by decide +kernel
theorem dL_hinders_104 : decode cL_hinders 104 = .ok (.iand, 1) := by decide +kernel
theorem dL_hinders_105 : decode cL_hinders 105 = .ok (.istore 6, 2) := by decide +kernel
theorem dL_hinders_107 : decode cL_hinders 107 = .ok (.iload 4, 2) := by decide +kernel
theorem dL_hinders_109 : decode cL_hinders 109 = .ok (.iconst 3, 1) := by decide +kernel
theorem dL_hinders_110 : decode cL_hinders 110 = .ok (.if_icmp .ne 27, 3) := by decide +kernel
theorem dL_hinders_113 : decode cL_hinders 113 = .ok (.aload_n 1, 1) := by decide +kernel
theorem dL_hinders_114 : decode cL_hinders 114 = .ok (.iload_n 2, 1) := by decide +kernel
theorem dL_hinders_115 : decode cL_hinders 115 = .ok (.iconst 3, 1) := by decide +kernel
theorem dL_hinders_116 : decode cL_hinders 116 = .ok (.iload_n 3, 1) := by decide +kernel
theorem dL_hinders_117 : decode cL_hinders 117 = .ok (.aload_n 0, 1) := by decide +kernel
theorem dL_hinders_118 : decode cL_hinders 118 = .ok (.iload 6, 2) := by decide +kernel
theorem dL_hinders_120 : decode cL_hinders 120 = .ok (.invokestatic 114, 3) := by decide +kernel
theorem dL_hinders_123 : decode cL_hinders 123 = .ok (.aload_n 0, 1) := by decide +kernel
theorem dL_hinders_124 : decode cL_hinders 124 = .ok (.iload 6, 2) := by decide +kernel
theorem dL_hinders_126 : decode cL_hinders 126 = .ok (.invokestatic 107, 3) := by decide +kernel
theorem dL_hinders_129 : decode cL_hinders 129 = .ok (.invokestatic 117, 3) := by decide +kernel
theorem dL_hinders_132 : decode cL_hinders 132 = .ok (.ifCond .eq 5, 3) := by decide +kernel
theorem dL_hinders_135 : decode cL_hinders 135 = .ok (.iconst 1, 1) := by decide +kernel
theorem dL_hinders_136 : decode cL_hinders 136 = .ok (.ireturn, 1) := by decide +kernel
theorem dL_hinders_137 : decode cL_hinders 137 = .ok (.iconst 0, 1) := by decide +kernel
theorem dL_hinders_138 : decode cL_hinders 138 = .ok (.istore 7, 2) := by decide +kernel
theorem dL_hinders_140 : decode cL_hinders 140 = .ok (.iconst 0, 1) := by decide +kernel
theorem dL_hinders_141 : decode cL_hinders 141 = .ok (.istore 8, 2) := by decide +kernel
theorem dL_hinders_143 : decode cL_hinders 143 = .ok (.iload 8, 2) := by decide +kernel
theorem dL_hinders_145 : decode cL_hinders 145 = .ok (.bipush 27, 2) := by decide +kernel
theorem dL_hinders_147 : decode cL_hinders 147 = .ok (.if_icmp .ge 20, 3) := by decide +kernel
theorem dL_hinders_150 : decode cL_hinders 150 = .ok (.iload 7, 2) := by decide +kernel
theorem dL_hinders_152 : decode cL_hinders 152 = .ok (.iload_n 3, 1) := by decide +kernel
theorem dL_hinders_153 : decode cL_hinders 153 = .ok (.iload 8, 2) := by decide +kernel
theorem dL_hinders_155 : decode cL_hinders 155 = .ok (.ishr, 1) := by decide +kernel
theorem dL_hinders_156 : decode cL_hinders 156 = .ok (.iconst 1, 1) := by decide +kernel
theorem dL_hinders_157 : decode cL_hinders 157 = .ok (.iand, 1) := by decide +kernel
theorem dL_hinders_158 : decode cL_hinders 158 = .ok (.iadd, 1) := by decide +kernel
theorem dL_hinders_159 : decode cL_hinders 159 = .ok (.istore 7, 2) := by decide +kernel
theorem dL_hinders_161 : decode cL_hinders 161 = .ok (.iinc 8 1, 3) := by decide +kernel
theorem dL_hinders_164 : decode cL_hinders 164 = .ok (.goto (-21), 3) := by decide +kernel
theorem dL_hinders_167 : decode cL_hinders 167 = .ok (.iload 4, 2) := by decide +kernel
